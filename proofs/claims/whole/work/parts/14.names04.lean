theorem dX4_composeRow_43 : decode cX4_composeRow 43 = .ok (.getfield 39, 3) := by decide +kernel
theorem dX4_composeRow_46 : decode cX4_composeRow 46 = .ok (.getfield 182, 3) := by decide +kernel
theorem dX4_composeRow_49 : decode cX4_composeRow 49 = .ok (.iload_n 3, 1) := by decide +kernel
theorem dX4_composeRow_50 : decode cX4_composeRow 50 = .ok (.laload, 1) := by decide +kernel
theorem dX4_composeRow_51 : decode cX4_composeRow 51 = .ok (.l2i, 1) := by decide +kernel
theorem dX4_composeRow_52 : decode cX4_composeRow 52 = .ok (.iastore, 1) := by decide +kernel
theorem dX4_composeRow_53 : decode cX4_composeRow 53 = .ok (.iinc 3 1, 3) := by decide +kernel
theorem dX4_composeRow_56 : decode cX4_composeRow 56 = .ok (.goto (-30), 3) := by decide +kernel
theorem dX4_composeRow_59 : decode cX4_composeRow 59 = .ok (.aload_n 0, 1) := by decide +kernel
theorem dX4_composeRow_60 : decode cX4_composeRow 60 = .ok (.aload_n 0, 1) := by decide +kernel
theorem dX4_composeRow_61 : decode cX4_composeRow 61 = .ok (.getfield 43, 3) := by decide +kernel
theorem dX4_composeRow_64 : decode cX4_composeRow 64 = .ok (.iload_n 2, 1) := by decide +kernel
theorem dX4_composeRow_65 : decode cX4_composeRow 65 = .ok (.invokevirtual 135, 3) := by decide +kernel
theorem dX4_composeRow_68 : decode cX4_composeRow 68 = .ok (.ireturn, 1) := by decide +kernel
set_option maxRecDepth 20000 in
theorem ggX4_transformRow_X1_hasRow : GoodIn wsX4_transformRow wsX1_hasRow := goodIn_r _ [9, 10, 60, 61, 62, 63] (by decide +kernel) (by decide +kernel)
set_option maxRecDepth 20000 in
theorem gX4_transformRow_X1_hasRow : GoodIn wsX4_transformRow (wsV RX4 117 RX1 yX1_hasRow wsX1_hasRow) := goodIn_app (goodIn_of _ (by decide +kernel)) ggX4_transformRow_X1_hasRow
set_option maxRecDepth 20000 in
theorem ggX4_transformRow_X0_keepLine : GoodIn wsX4_transformRow wsX0_keepLine := goodIn_r _ [15, 16, 17, 18, 19, 20, 21, 22, 23, 24, 25, 26, 27, 14, 28, 29, 30, 31, 32, 33, 34, 60, 61, 62, 63, 64, 65, 66, 67, 68, 69, 70] (by decide +kernel) (by decide +kernel)
set_option maxRecDepth 20000 in
theorem gX4_transformRow_X0_keepLine : GoodIn wsX4_transformRow (wsV RX4 120 RX0 yX0_keepLine wsX0_keepLine) := goodIn_app (goodIn_of _ (by decide +kernel)) ggX4_transformRow_X0_keepLine
set_option maxRecDepth 20000 in
theorem ggX4_transformRow_X4_transform : GoodIn wsX4_transformRow wsX4_transform := goodIn_r _ [38, 39, 40, 37, 41, 42, 43, 44, 45, 46] (by decide +kernel) (by decide +kernel)
set_option maxRecDepth 20000 in
theorem gX4_transformRow_X4_transform : GoodIn wsX4_transformRow (va_wsS RX4 168 yX4_transform wsX4_transform) := goodIn_app (goodIn_of _ (by decide +kernel)) ggX4_transformRow_X4_transform
set_option maxRecDepth 20000 in
theorem ggX4_transformRow_X1_allThings : GoodIn wsX4_transformRow wsX1_allThings := goodIn_r _ [50, 10, 60, 61, 62, 63] (by decide +kernel) (by decide +kernel)
set_option maxRecDepth 20000 in
theorem gX4_transformRow_X1_allThings : GoodIn wsX4_transformRow (wsV RX4 244 RX1 yX1_allThings wsX1_allThings) := goodIn_app (goodIn_of _ (by decide +kernel)) ggX4_transformRow_X1_allThings
theorem dX4_transformRow_0 : decode cX4_transformRow 0 = .ok (.aload_n 0, 1) := by decide +kernel
theorem dX4_transformRow_1 : decode cX4_transformRow 1 = .ok (.getfield 10, 3) := by decide +kernel
theorem dX4_transformRow_4 : decode cX4_transformRow 4 = .ok (.iload_n 1, 1) := by decide +kernel
theorem dX4_transformRow_5 : decode cX4_transformRow 5 = .ok (.invokevirtual 117, 3) := by decide +kernel
theorem dX4_transformRow_8 : decode cX4_transformRow 8 = .ok (.ifCond .ne 5, 3) := by decide +kernel
theorem dX4_transformRow_11 : decode cX4_transformRow 11 = .ok (.iconst (-1), 1) := by decide +kernel
theorem dX4_transformRow_12 : decode cX4_transformRow 12 = .ok (.ireturn, 1) := by decide +kernel
theorem dX4_transformRow_13 : decode cX4_transformRow 13 = .ok (.aload_n 0, 1) := by decide +kernel
theorem dX4_transformRow_14 : decode cX4_transformRow 14 = .ok (.getfield 25, 3) := by decide +kernel
theorem dX4_transformRow_17 : decode cX4_transformRow 17 = .ok (.aload_n 0, 1) := by decide +kernel
theorem dX4_transformRow_18 : decode cX4_transformRow 18 = .ok (.getfield 10, 3) := by decide +kernel
theorem dX4_transformRow_21 : decode cX4_transformRow 21 = .ok (.iload_n 1, 1) := by decide +kernel
theorem dX4_transformRow_22 : decode cX4_transformRow 22 = .ok (.invokevirtual 120, 3) := by decide +kernel
theorem dX4_transformRow_25 : decode cX4_transformRow 25 = .ok (.aload_n 0, 1) := by decide +kernel
theorem dX4_transformRow_26 : decode cX4_transformRow 26 = .ok (.getfield 10, 3) := by decide +kernel
theorem dX4_transformRow_29 : decode cX4_transformRow 29 = .ok (.getfield 106, 3) := by decide +kernel
theorem dX4_transformRow_32 : decode cX4_transformRow 32 = .ok (.iload_n 1, 1) := by decide +kernel
theorem dX4_transformRow_33 : decode cX4_transformRow 33 = .ok (.aaload, 1) := by decide +kernel
theorem dX4_transformRow_34 : decode cX4_transformRow 34 = .ok (.aload_n 0, 1) := by decide +kernel
theorem dX4_transformRow_35 : decode cX4_transformRow 35 = .ok (.getfield 10, 3) := by decide +kernel
theorem dX4_transformRow_38 : decode cX4_transformRow 38 = .ok (.getfield 92, 3) := by decide +kernel
theorem dX4_transformRow_41 : decode cX4_transformRow 41 = .ok (.iload_n 2, 1) := by decide +kernel
theorem dX4_transformRow_42 : decode cX4_transformRow 42 = .ok (.ifCond .eq 7, 3) := by decide +kernel
theorem dX4_transformRow_45 : decode cX4_transformRow 45 = .ok (.iconst 2, 1) := by decide +kernel
theorem dX4_transformRow_46 : decode cX4_transformRow 46 = .ok (.goto 4, 3) := by decide +kernel
theorem dX4_transformRow_49 : decode cX4_transformRow 49 = .ok (.iconst 1, 1) := by decide +kernel
theorem dX4_transformRow_50 : decode cX4_transformRow 50 = .ok (.iload_n 3, 1) := by decide +kernel
theorem dX4_transformRow_51 : decode cX4_transformRow 51 = .ok (.invokestatic 168, 3) := by decide +kernel
theorem dX4_transformRow_54 : decode cX4_transformRow 54 = .ok (.aload_n 0, 1) := by decide +kernel
theorem dX4_transformRow_55 : decode cX4_transformRow 55 = .ok (.getfield 10, 3) := by decide +kernel
theorem dX4_transformRow_58 : decode cX4_transformRow 58 = .ok (.getfield 106, 3) := by decide +kernel
theorem dX4_transformRow_61 : decode cX4_transformRow 61 = .ok (.iload_n 1, 1) := by decide +kernel
theorem dX4_transformRow_62 : decode cX4_transformRow 62 = .ok (.aaload, 1) := by decide +kernel
theorem dX4_transformRow_63 : decode cX4_transformRow 63 = .ok (.iload_n 2, 1) := by decide +kernel
theorem dX4_transformRow_64 : decode cX4_transformRow 64 = .ok (.ifCond .eq 7, 3) := by decide +kernel
theorem dX4_transformRow_67 : decode cX4_transformRow 67 = .ok (.iconst 0, 1) := by decide +kernel
theorem dX4_transformRow_68 : decode cX4_transformRow 68 = .ok (.goto 10, 3) := by decide +kernel
theorem dX4_transformRow_71 : decode cX4_transformRow 71 = .ok (.aload_n 0, 1) := by decide +kernel
theorem dX4_transformRow_72 : decode cX4_transformRow 72 = .ok (.getfield 10, 3) := by decide +kernel
theorem dX4_transformRow_75 : decode cX4_transformRow 75 = .ok (.invokevirtual 244, 3) := by decide +kernel
theorem dX4_transformRow_78 : decode cX4_transformRow 78 = .ok (.iaload, 1) := by decide +kernel
theorem dX4_transformRow_79 : decode cX4_transformRow 79 = .ok (.ireturn, 1) := by decide +kernel
set_option maxRecDepth 20000 in
theorem ggX4_multiplyApart_X1_countSets : GoodIn wsX4_multiplyApart wsX1_countSets := goodIn_r _ [7, 8, 23, 24, 25, 26] (by decide +kernel) (by decide +kernel)
set_option maxRecDepth 20000 in
theorem gX4_multiplyApart_X1_countSets : GoodIn wsX4_multiplyApart (wsV RX4 132 RX1 yX1_countSets wsX1_countSets) := goodIn_app (goodIn_of _ (by decide +kernel)) ggX4_multiplyApart_X1_countSets
set_option maxRecDepth 20000 in
theorem ggX4_multiplyApart_X4_reduce : GoodIn wsX4_multiplyApart wsX4_reduce := goodIn_r _ [12, 13] (by decide +kernel) (by decide +kernel)
set_option maxRecDepth 20000 in
theorem gX4_multiplyApart_X4_reduce : GoodIn wsX4_multiplyApart (va_wsS RX4 124 yX4_reduce wsX4_reduce) := goodIn_app (goodIn_of _ (by decide +kernel)) ggX4_multiplyApart_X4_reduce
theorem dX4_multiplyApart_0 : decode cX4_multiplyApart 0 = .ok (.iconst 0, 1) := by decide +kernel
theorem dX4_multiplyApart_1 : decode cX4_multiplyApart 1 = .ok (.istore_n 3, 1) := by decide +kernel
theorem dX4_multiplyApart_2 : decode cX4_multiplyApart 2 = .ok (.iload_n 3, 1) := by decide +kernel
theorem dX4_multiplyApart_3 : decode cX4_multiplyApart 3 = .ok (.aload_n 0, 1) := by decide +kernel
theorem dX4_multiplyApart_4 : decode cX4_multiplyApart 4 = .ok (.getfield 10, 3) := by decide +kernel
theorem dX4_multiplyApart_7 : decode cX4_multiplyApart 7 = .ok (.invokevirtual 132, 3) := by decide +kernel
theorem dX4_multiplyApart_10 : decode cX4_multiplyApart 10 = .ok (.if_icmp .ge 68, 3) := by decide +kernel
theorem dX4_multiplyApart_13 : decode cX4_multiplyApart 13 = .ok (.aload_n 1, 1) := by decide +kernel
theorem dX4_multiplyApart_14 : decode cX4_multiplyApart 14 = .ok (.iconst 0, 1) := by decide +kernel
theorem dX4_multiplyApart_15 : decode cX4_multiplyApart 15 = .ok (.iaload, 1) := by decide +kernel
theorem dX4_multiplyApart_16 : decode cX4_multiplyApart 16 = .ok (.i2l, 1) := by decide +kernel
theorem dX4_multiplyApart_17 : decode cX4_multiplyApart 17 = .ok (.aload_n 2, 1) := by decide +kernel
theorem dX4_multiplyApart_18 : decode cX4_multiplyApart 18 = .ok (.iload_n 3, 1) := by decide +kernel
theorem dX4_multiplyApart_19 : decode cX4_multiplyApart 19 = .ok (.iaload, 1) := by decide +kernel
theorem dX4_multiplyApart_20 : decode cX4_multiplyApart 20 = .ok (.i2l, 1) := by decide +kernel
theorem dX4_multiplyApart_21 : decode cX4_multiplyApart 21 = .ok (.lmul, 1) := by decide +kernel
theorem dX4_multiplyApart_22 : decode cX4_multiplyApart 22 = .ok (.lstore 4, 2) := by decide +kernel
theorem dX4_multiplyApart_24 : decode cX4_multiplyApart 24 = .ok (.iload_n 3, 1) := by decide +kernel
theorem dX4_multiplyApart_25 : decode cX4_multiplyApart 25 = .ok (.istore 6, 2) := by decide +kernel
theorem dX4_multiplyApart_27 : decode cX4_multiplyApart 27 = .ok (.iload 6, 2) := by decide +kernel
theorem dX4_multiplyApart_29 : decode cX4_multiplyApart 29 = .ok (.ifCond .le 32, 3) := by decide +kernel
theorem dX4_multiplyApart_32 : decode cX4_multiplyApart 32 = .ok (.lload 4, 2) := by decide +kernel
theorem dX4_multiplyApart_34 : decode cX4_multiplyApart 34 = .ok (.aload_n 1, 1) := by decide +kernel
theorem dX4_multiplyApart_35 : decode cX4_multiplyApart 35 = .ok (.iload 6, 2) := by decide +kernel
theorem dX4_multiplyApart_37 : decode cX4_multiplyApart 37 = .ok (.iaload, 1) := by decide +kernel
theorem dX4_multiplyApart_38 : decode cX4_multiplyApart 38 = .ok (.i2l, 1) := by decide +kernel
theorem dX4_multiplyApart_39 : decode cX4_multiplyApart 39 = .ok (.aload_n 2, 1) := by decide +kernel
theorem dX4_multiplyApart_40 : decode cX4_multiplyApart 40 = .ok (.iload_n 3, 1) := by decide +kernel
theorem dX4_multiplyApart_41 : decode cX4_multiplyApart 41 = .ok (.iload 6, 2) := by decide +kernel
theorem dX4_multiplyApart_43 : decode cX4_multiplyApart 43 = .ok (.ixor, 1) := by decide +kernel
theorem dX4_multiplyApart_44 : decode cX4_multiplyApart 44 = .ok (.iaload, 1) := by decide +kernel
theorem dX4_multiplyApart_45 : decode cX4_multiplyApart 45 = .ok (.i2l, 1) := by decide +kernel
theorem dX4_multiplyApart_46 : decode cX4_multiplyApart 46 = .ok (.lmul, 1) := by decide +kernel
theorem dX4_multiplyApart_47 : decode cX4_multiplyApart 47 = .ok (.ladd, 1) := by decide +kernel
theorem dX4_multiplyApart_48 : decode cX4_multiplyApart 48 = .ok (.lstore 4, 2) := by decide +kernel
theorem dX4_multiplyApart_50 : decode cX4_multiplyApart 50 = .ok (.iload 6, 2) := by decide +kernel
theorem dX4_multiplyApart_52 : decode cX4_multiplyApart 52 = .ok (.iconst 1, 1) := by decide +kernel
theorem dX4_multiplyApart_53 : decode cX4_multiplyApart 53 = .ok (.isub, 1) := by decide +kernel
theorem dX4_multiplyApart_54 : decode cX4_multiplyApart 54 = .ok (.iload_n 3, 1) := by decide +kernel
theorem dX4_multiplyApart_55 : decode cX4_multiplyApart 55 = .ok (.iand, 1) := by decide +kernel
theorem dX4_multiplyApart_56 : decode cX4_multiplyApart 56 = .ok (.istore 6, 2) := by decide +kernel
theorem dX4_multiplyApart_58 : decode cX4_multiplyApart 58 = .ok (.goto (-31), 3) := by decide +kernel
theorem dX4_multiplyApart_61 : decode cX4_multiplyApart 61 = .ok (.aload_n 0, 1) := by decide +kernel
theorem dX4_multiplyApart_62 : decode cX4_multiplyApart 62 = .ok (.getfield 43, 3) := by decide +kernel
theorem dX4_multiplyApart_65 : decode cX4_multiplyApart 65 = .ok (.iload_n 3, 1) := by decide +kernel
theorem dX4_multiplyApart_66 : decode cX4_multiplyApart 66 = .ok (.lload 4, 2) := by decide +kernel
theorem dX4_multiplyApart_68 : decode cX4_multiplyApart 68 = .ok (.invokestatic 124, 3) := by decide +kernel
theorem dX4_multiplyApart_71 : decode cX4_multiplyApart 71 = .ok (.iastore, 1) := by decide +kernel
theorem dX4_multiplyApart_72 : decode cX4_multiplyApart 72 = .ok (.iinc 3 1, 3) := by decide +kernel
theorem dX4_multiplyApart_75 : decode cX4_multiplyApart 75 = .ok (.goto (-73), 3) := by decide +kernel
theorem dX4_multiplyApart_78 : decode cX4_multiplyApart 78 = .ok (.return_, 1) := by decide +kernel
set_option maxRecDepth 20000 in
theorem ggX4_multiplyTransformed_X4_transform : GoodIn wsX4_multiplyTransformed wsX4_transform := goodIn_r _ [12, 13, 14, 11, 15, 16, 17, 18, 19, 20] (by decide +kernel) (by decide +kernel)
set_option maxRecDepth 20000 in
theorem gX4_multiplyTransformed_X4_transform : GoodIn wsX4_multiplyTransformed (va_wsS RX4 168 yX4_transform wsX4_transform) := goodIn_app (goodIn_of _ (by decide +kernel)) ggX4_multiplyTransformed_X4_transform
set_option maxRecDepth 20000 in
theorem ggX4_multiplyTransformed_X1_countSets : GoodIn wsX4_multiplyTransformed wsX1_countSets := goodIn_r _ [25, 26, 39, 40, 41, 42] (by decide +kernel) (by decide +kernel)
set_option maxRecDepth 20000 in
theorem gX4_multiplyTransformed_X1_countSets : GoodIn wsX4_multiplyTransformed (wsV RX4 132 RX1 yX1_countSets wsX1_countSets) := goodIn_app (goodIn_of _ (by decide +kernel)) ggX4_multiplyTransformed_X1_countSets
set_option maxRecDepth 20000 in
theorem ggX4_multiplyTransformed_X4_combine : GoodIn wsX4_multiplyTransformed wsX4_combine := goodIn_r _ [29, 17, 18, 11, 19, 20] (by decide +kernel) (by decide +kernel)
set_option maxRecDepth 20000 in
theorem gX4_multiplyTransformed_X4_combine : GoodIn wsX4_multiplyTransformed (va_wsS RX4 247 yX4_combine wsX4_combine) := goodIn_app (goodIn_of _ (by decide +kernel)) ggX4_multiplyTransformed_X4_combine
theorem dX4_multiplyTransformed_0 : decode cX4_multiplyTransformed 0 = .ok (.aload_n 1, 1) := by decide +kernel
theorem dX4_multiplyTransformed_1 : decode cX4_multiplyTransformed 1 = .ok (.iconst 0, 1) := by decide +kernel
theorem dX4_multiplyTransformed_2 : decode cX4_multiplyTransformed 2 = .ok (.aload_n 0, 1) := by decide +kernel
theorem dX4_multiplyTransformed_3 : decode cX4_multiplyTransformed 3 = .ok (.getfield 43, 3) := by decide +kernel
theorem dX4_multiplyTransformed_6 : decode cX4_multiplyTransformed 6 = .ok (.iconst 0, 1) := by decide +kernel
theorem dX4_multiplyTransformed_7 : decode cX4_multiplyTransformed 7 = .ok (.sipush 256, 3) := by decide +kernel
theorem dX4_multiplyTransformed_10 : decode cX4_multiplyTransformed 10 = .ok (.invokestatic 238, 3) := by decide +kernel
theorem dX4_multiplyTransformed_13 : decode cX4_multiplyTransformed 13 = .ok (.aload_n 2, 1) := by decide +kernel
theorem dX4_multiplyTransformed_14 : decode cX4_multiplyTransformed 14 = .ok (.iconst 0, 1) := by decide +kernel
theorem dX4_multiplyTransformed_15 : decode cX4_multiplyTransformed 15 = .ok (.aload_n 0, 1) := by decide +kernel
theorem dX4_multiplyTransformed_16 : decode cX4_multiplyTransformed 16 = .ok (.getfield 47, 3) := by decide +kernel
theorem dX4_multiplyTransformed_19 : decode cX4_multiplyTransformed 19 = .ok (.iconst 0, 1) := by decide +kernel
theorem dX4_multiplyTransformed_20 : decode cX4_multiplyTransformed 20 = .ok (.sipush 256, 3) := by decide +kernel
theorem dX4_multiplyTransformed_23 : decode cX4_multiplyTransformed 23 = .ok (.invokestatic 238, 3) := by decide +kernel
theorem dX4_multiplyTransformed_26 : decode cX4_multiplyTransformed 26 = .ok (.aload_n 0, 1) := by decide +kernel
theorem dX4_multiplyTransformed_27 : decode cX4_multiplyTransformed 27 = .ok (.getfield 43, 3) := by decide +kernel
theorem dX4_multiplyTransformed_30 : decode cX4_multiplyTransformed 30 = .ok (.aload_n 0, 1) := by decide +kernel
theorem dX4_multiplyTransformed_31 : decode cX4_multiplyTransformed 31 = .ok (.getfield 10, 3) := by decide +kernel
theorem dX4_multiplyTransformed_34 : decode cX4_multiplyTransformed 34 = .ok (.getfield 92, 3) := by decide +kernel
theorem dX4_multiplyTransformed_37 : decode cX4_multiplyTransformed 37 = .ok (.iload_n 3, 1) := by decide +kernel
theorem dX4_multiplyTransformed_38 : decode cX4_multiplyTransformed 38 = .ok (.iconst 0, 1) := by decide +kernel
theorem dX4_multiplyTransformed_39 : decode cX4_multiplyTransformed 39 = .ok (.invokestatic 168, 3) := by decide +kernel
theorem dX4_multiplyTransformed_42 : decode cX4_multiplyTransformed 42 = .ok (.aload_n 0, 1) := by decide +kernel
theorem dX4_multiplyTransformed_43 : decode cX4_multiplyTransformed 43 = .ok (.getfield 47, 3) := by decide +kernel
theorem dX4_multiplyTransformed_46 : decode cX4_multiplyTransformed 46 = .ok (.aload_n 0, 1) := by decide +kernel
theorem dX4_multiplyTransformed_47 : decode cX4_multiplyTransformed 47 = .ok (.getfield 10, 3) := by decide +kernel
theorem dX4_multiplyTransformed_50 : decode cX4_multiplyTransformed 50 = .ok (.getfield 92, 3) := by decide +kernel
theorem dX4_multiplyTransformed_53 : decode cX4_multiplyTransformed 53 = .ok (.iload_n 3, 1) := by decide +kernel
theorem dX4_multiplyTransformed_54 : decode cX4_multiplyTransformed 54 = .ok (.iconst 0, 1) := by decide +kernel
theorem dX4_multiplyTransformed_55 : decode cX4_multiplyTransformed 55 = .ok (.invokestatic 168, 3) := by decide +kernel
theorem dX4_multiplyTransformed_58 : decode cX4_multiplyTransformed 58 = .ok (.iconst 0, 1) := by decide +kernel
theorem dX4_multiplyTransformed_59 : decode cX4_multiplyTransformed 59 = .ok (.istore 4, 2) := by decide +kernel
theorem dX4_multiplyTransformed_61 : decode cX4_multiplyTransformed 61 = .ok (.iload 4, 2) := by decide +kernel
theorem dX4_multiplyTransformed_63 : decode cX4_multiplyTransformed 63 = .ok (.aload_n 0, 1) := by decide +kernel
theorem dX4_multiplyTransformed_64 : decode cX4_multiplyTransformed 64 = .ok (.getfield 10, 3) := by decide +kernel
theorem dX4_multiplyTransformed_67 : decode cX4_multiplyTransformed 67 = .ok (.invokevirtual 132, 3) := by decide +kernel
theorem dX4_multiplyTransformed_70 : decode cX4_multiplyTransformed 70 = .ok (.if_icmp .ge 34, 3) := by decide +kernel
theorem dX4_multiplyTransformed_73 : decode cX4_multiplyTransformed 73 = .ok (.aload_n 0, 1) := by decide +kernel
theorem dX4_multiplyTransformed_74 : decode cX4_multiplyTransformed 74 = .ok (.getfield 43, 3) := by decide +kernel
theorem dX4_multiplyTransformed_77 : decode cX4_multiplyTransformed 77 = .ok (.iload 4, 2) := by decide +kernel
theorem dX4_multiplyTransformed_79 : decode cX4_multiplyTransformed 79 = .ok (.aload_n 0, 1) := by decide +kernel
theorem dX4_multiplyTransformed_80 : decode cX4_multiplyTransformed 80 = .ok (.getfield 43, 3) := by decide +kernel
theorem dX4_multiplyTransformed_83 : decode cX4_multiplyTransformed 83 = .ok (.iload 4, 2) := by decide +kernel
theorem dX4_multiplyTransformed_85 : decode cX4_multiplyTransformed 85 = .ok (.iaload, 1) := by decide +kernel
theorem dX4_multiplyTransformed_86 : decode cX4_multiplyTransformed 86 = .ok (.aload_n 0, 1) := by decide +kernel
theorem dX4_multiplyTransformed_87 : decode cX4_multiplyTransformed 87 = .ok (.getfield 47, 3) := by decide +kernel
theorem dX4_multiplyTransformed_90 : decode cX4_multiplyTransformed 90 = .ok (.iload 4, 2) := by decide +kernel
theorem dX4_multiplyTransformed_92 : decode cX4_multiplyTransformed 92 = .ok (.iaload, 1) := by decide +kernel
theorem dX4_multiplyTransformed_93 : decode cX4_multiplyTransformed 93 = .ok (.iload_n 3, 1) := by decide +kernel
theorem dX4_multiplyTransformed_94 : decode cX4_multiplyTransformed 94 = .ok (.invokestatic 247, 3) := by decide +kernel
theorem dX4_multiplyTransformed_97 : decode cX4_multiplyTransformed 97 = .ok (.iastore, 1) := by decide +kernel
theorem dX4_multiplyTransformed_98 : decode cX4_multiplyTransformed 98 = .ok (.iinc 4 1, 3) := by decide +kernel
theorem dX4_multiplyTransformed_101 : decode cX4_multiplyTransformed 101 = .ok (.goto (-40), 3) := by decide +kernel
theorem dX4_multiplyTransformed_104 : decode cX4_multiplyTransformed 104 = .ok (.aload_n 0, 1) := by decide +kernel
theorem dX4_multiplyTransformed_105 : decode cX4_multiplyTransformed 105 = .ok (.getfield 43, 3) := by decide +kernel
theorem dX4_multiplyTransformed_108 : decode cX4_multiplyTransformed 108 = .ok (.aload_n 0, 1) := by decide +kernel
theorem dX4_multiplyTransformed_109 : decode cX4_multiplyTransformed 109 = .ok (.getfield 10, 3) := by decide +kernel
theorem dX4_multiplyTransformed_112 : decode cX4_multiplyTransformed 112 = .ok (.getfield 92, 3) := by decide +kernel
theorem dX4_multiplyTransformed_115 : decode cX4_multiplyTransformed 115 = .ok (.iload_n 3, 1) := by decide +kernel
theorem dX4_multiplyTransformed_116 : decode cX4_multiplyTransformed 116 = .ok (.iconst 1, 1) := by decide +kernel
theorem dX4_multiplyTransformed_117 : decode cX4_multiplyTransformed 117 = .ok (.invokestatic 168, 3) := by decide +kernel
theorem dX4_multiplyTransformed_120 : decode cX4_multiplyTransformed 120 = .ok (.return_, 1) := by decide +kernel
set_option maxRecDepth 20000 in
theorem ggX4_combine_X4_reduce : GoodIn wsX4_combine wsX4_reduce := goodIn_r _ [4, 5] (by decide +kernel) (by decide +kernel)
set_option maxRecDepth 20000 in
theorem gX4_combine_X4_reduce : GoodIn wsX4_combine (va_wsS RX4 124 yX4_reduce wsX4_reduce) := goodIn_app (goodIn_of _ (by decide +kernel)) ggX4_combine_X4_reduce
theorem dX4_combine_0 : decode cX4_combine 0 = .ok (.iload_n 2, 1) := by decide +kernel
theorem dX4_combine_1 : decode cX4_combine 1 = .ok (.iconst 5, 1) := by decide +kernel
theorem dX4_combine_2 : decode cX4_combine 2 = .ok (.if_icmp .ne 12, 3) := by decide +kernel
theorem dX4_combine_5 : decode cX4_combine 5 = .ok (.iload_n 0, 1) := by decide +kernel
theorem dX4_combine_6 : decode cX4_combine 6 = .ok (.i2l, 1) := by decide +kernel
theorem dX4_combine_7 : decode cX4_combine 7 = .ok (.iload_n 1, 1) := by decide +kernel
theorem dX4_combine_8 : decode cX4_combine 8 = .ok (.i2l, 1) := by decide +kernel
theorem dX4_combine_9 : decode cX4_combine 9 = .ok (.ladd, 1) := by decide +kernel
theorem dX4_combine_10 : decode cX4_combine 10 = .ok (.invokestatic 124, 3) := by decide +kernel
theorem dX4_combine_13 : decode cX4_combine 13 = .ok (.ireturn, 1) := by decide +kernel
theorem dX4_combine_14 : decode cX4_combine 14 = .ok (.iload_n 2, 1) := by decide +kernel
theorem dX4_combine_15 : decode cX4_combine 15 = .ok (.bipush 6, 2) := by decide +kernel
theorem dX4_combine_17 : decode cX4_combine 17 = .ok (.if_icmp .ne 12, 3) := by decide +kernel
theorem dX4_combine_20 : decode cX4_combine 20 = .ok (.iload_n 0, 1) := by decide +kernel
theorem dX4_combine_21 : decode cX4_combine 21 = .ok (.i2l, 1) := by decide +kernel
theorem dX4_combine_22 : decode cX4_combine 22 = .ok (.iload_n 1, 1) := by decide +kernel
theorem dX4_combine_23 : decode cX4_combine 23 = .ok (.i2l, 1) := by decide +kernel
theorem dX4_combine_24 : decode cX4_combine 24 = .ok (.lsub, 1) := by decide +kernel
theorem dX4_combine_25 : decode cX4_combine 25 = .ok (.invokestatic 124, 3) := by decide +kernel
theorem dX4_combine_28 : decode cX4_combine 28 = .ok (.ireturn, 1) := by decide +kernel
theorem dX4_combine_29 : decode cX4_combine 29 = .ok (.iload_n 0, 1) := by decide +kernel
theorem dX4_combine_30 : decode cX4_combine 30 = .ok (.i2l, 1) := by decide +kernel
theorem dX4_combine_31 : decode cX4_combine 31 = .ok (.iload_n 1, 1) := by decide +kernel
theorem dX4_combine_32 : decode cX4_combine 32 = .ok (.i2l, 1) := by decide +kernel
theorem dX4_combine_33 : decode cX4_combine 33 = .ok (.lmul, 1) := by decide +kernel
theorem dX4_combine_34 : decode cX4_combine 34 = .ok (.invokestatic 124, 3) := by decide +kernel
theorem dX4_combine_37 : decode cX4_combine 37 = .ok (.ireturn, 1) := by decide +kernel
set_option maxRecDepth 20000 in
theorem ggX4_transform_X4_turnTwo : GoodIn wsX4_transform wsX4_turnTwo := goodIn_r _ [4, 5, 6, 7, 3, 8, 9] (by decide +kernel) (by decide +kernel)
set_option maxRecDepth 20000 in
theorem gX4_transform_X4_turnTwo : GoodIn wsX4_transform (va_wsS RX4 251 yX4_turnTwo wsX4_turnTwo) := goodIn_app (goodIn_of _ (by decide +kernel)) ggX4_transform_X4_turnTwo
theorem dX4_transform_0 : decode cX4_transform 0 = .ok (.iload_n 2, 1) := by decide +kernel
theorem dX4_transform_1 : decode cX4_transform 1 = .ok (.iconst 1, 1) := by decide +kernel
theorem dX4_transform_2 : decode cX4_transform 2 = .ok (.if_icmp .lt 8, 3) := by decide +kernel
theorem dX4_transform_5 : decode cX4_transform 5 = .ok (.iload_n 2, 1) := by decide +kernel
theorem dX4_transform_6 : decode cX4_transform 6 = .ok (.iconst 3, 1) := by decide +kernel
theorem dX4_transform_7 : decode cX4_transform 7 = .ok (.if_icmp .le 4, 3) := by decide +kernel
theorem dX4_transform_10 : decode cX4_transform 10 = .ok (.return_, 1) := by decide +kernel
theorem dX4_transform_11 : decode cX4_transform 11 = .ok (.iconst 1, 1) := by decide +kernel
theorem dX4_transform_12 : decode cX4_transform 12 = .ok (.iload_n 1, 1) := by decide +kernel
theorem dX4_transform_13 : decode cX4_transform 13 = .ok (.ishl, 1) := by decide +kernel
theorem dX4_transform_14 : decode cX4_transform 14 = .ok (.istore 4, 2) := by decide +kernel
theorem dX4_transform_16 : decode cX4_transform 16 = .ok (.iconst 0, 1) := by decide +kernel
theorem dX4_transform_17 : decode cX4_transform 17 = .ok (.istore 5, 2) := by decide +kernel
theorem dX4_transform_19 : decode cX4_transform 19 = .ok (.iload 5, 2) := by decide +kernel
theorem dX4_transform_21 : decode cX4_transform 21 = .ok (.iload_n 1, 1) := by decide +kernel
theorem dX4_transform_22 : decode cX4_transform 22 = .ok (.if_icmp .ge 52, 3) := by decide +kernel
theorem dX4_transform_25 : decode cX4_transform 25 = .ok (.iconst 1, 1) := by decide +kernel
theorem dX4_transform_26 : decode cX4_transform 26 = .ok (.iload 5, 2) := by decide +kernel
theorem dX4_transform_28 : decode cX4_transform 28 = .ok (.ishl, 1) := by decide +kernel
theorem dX4_transform_29 : decode cX4_transform 29 = .ok (.istore 6, 2) := by decide +kernel
theorem dX4_transform_31 : decode cX4_transform 31 = .ok (.iconst 0, 1) := by decide +kernel
theorem dX4_transform_32 : decode cX4_transform 32 = .ok (.istore 7, 2) := by decide +kernel
theorem dX4_transform_34 : decode cX4_transform 34 = .ok (.iload 7, 2) := by decide +kernel
theorem dX4_transform_36 : decode cX4_transform 36 = .ok (.iload 4, 2) := by decide +kernel
theorem dX4_transform_38 : decode cX4_transform 38 = .ok (.if_icmp .ge 30, 3) := by decide +kernel
theorem dX4_transform_41 : decode cX4_transform 41 = .ok (.iload 7, 2) := by decide +kernel
theorem dX4_transform_43 : decode cX4_transform 43 = .ok (.iload 6, 2) := by decide +kernel
theorem dX4_transform_45 : decode cX4_transform 45 = .ok (.iand, 1) := by decide +kernel
theorem dX4_transform_46 : decode cX4_transform 46 = .ok (.ifCond .ne 16, 3) := by decide +kernel
theorem dX4_transform_49 : decode cX4_transform 49 = .ok (.aload_n 0, 1) := by decide +kernel
theorem dX4_transform_50 : decode cX4_transform 50 = .ok (.iload 7, 2) := by decide +kernel
theorem dX4_transform_52 : decode cX4_transform 52 = .ok (.iload 7, 2) := by decide +kernel
theorem dX4_transform_54 : decode cX4_transform 54 = .ok (.iload 6, 2) := by decide +kernel
theorem dX4_transform_56 : decode cX4_transform 56 = .ok (.ior, 1) := by decide +kernel
theorem dX4_transform_57 : decode cX4_transform 57 = .ok (.iload_n 2, 1) := by decide +kernel
theorem dX4_transform_58 : decode cX4_transform 58 = .ok (.iload_n 3, 1) := by decide +kernel
theorem dX4_transform_59 : decode cX4_transform 59 = .ok (.invokestatic 251, 3) := by decide +kernel
theorem dX4_transform_62 : decode cX4_transform 62 = .ok (.iinc 7 1, 3) := by decide +kernel
theorem dX4_transform_65 : decode cX4_transform 65 = .ok (.goto (-31), 3) := by decide +kernel
theorem dX4_transform_68 : decode cX4_transform 68 = .ok (.iinc 5 1, 3) := by decide +kernel
theorem dX4_transform_71 : decode cX4_transform 71 = .ok (.goto (-52), 3) := by decide +kernel
theorem dX4_transform_74 : decode cX4_transform 74 = .ok (.return_, 1) := by decide +kernel
set_option maxRecDepth 20000 in
theorem ggX4_turnTwo_X4_reduce : GoodIn wsX4_turnTwo wsX4_reduce := goodIn_r _ [5, 6] (by decide +kernel) (by decide +kernel)
set_option maxRecDepth 20000 in
theorem gX4_turnTwo_X4_reduce : GoodIn wsX4_turnTwo (va_wsS RX4 124 yX4_reduce wsX4_reduce) := goodIn_app (goodIn_of _ (by decide +kernel)) ggX4_turnTwo_X4_reduce
theorem dX4_turnTwo_0 : decode cX4_turnTwo 0 = .ok (.aload_n 0, 1) := by decide +kernel
theorem dX4_turnTwo_1 : decode cX4_turnTwo 1 = .ok (.iload_n 1, 1) := by decide +kernel
theorem dX4_turnTwo_2 : decode cX4_turnTwo 2 = .ok (.iaload, 1) := by decide +kernel
theorem dX4_turnTwo_3 : decode cX4_turnTwo 3 = .ok (.i2l, 1) := by decide +kernel
theorem dX4_turnTwo_4 : decode cX4_turnTwo 4 = .ok (.lstore 5, 2) := by decide +kernel
theorem dX4_turnTwo_6 : decode cX4_turnTwo 6 = .ok (.aload_n 0, 1) := by decide +kernel
theorem dX4_turnTwo_7 : decode cX4_turnTwo 7 = .ok (.iload_n 2, 1) := by decide +kernel
theorem dX4_turnTwo_8 : decode cX4_turnTwo 8 = .ok (.iaload, 1) := by decide +kernel
theorem dX4_turnTwo_9 : decode cX4_turnTwo 9 = .ok (.i2l, 1) := by decide +kernel
theorem dX4_turnTwo_10 : decode cX4_turnTwo 10 = .ok (.lstore 7, 2) := by decide +kernel
theorem dX4_turnTwo_12 : decode cX4_turnTwo 12 = .ok (.iload_n 3, 1) := by decide +kernel
theorem dX4_turnTwo_13 : decode cX4_turnTwo 13 = .ok (.iconst 1, 1) := by decide +kernel
theorem dX4_turnTwo_14 : decode cX4_turnTwo 14 = .ok (.if_icmp .ne 30, 3) := by decide +kernel
theorem dX4_turnTwo_17 : decode cX4_turnTwo 17 = .ok (.aload_n 0, 1) := by decide +kernel
theorem dX4_turnTwo_18 : decode cX4_turnTwo 18 = .ok (.iload_n 2, 1) := by decide +kernel
theorem dX4_turnTwo_19 : decode cX4_turnTwo 19 = .ok (.iload 4, 2) := by decide +kernel
theorem dX4_turnTwo_21 : decode cX4_turnTwo 21 = .ok (.ifCond .eq 11, 3) := by decide +kernel
theorem dX4_turnTwo_24 : decode cX4_turnTwo 24 = .ok (.lload 7, 2) := by decide +kernel
theorem dX4_turnTwo_26 : decode cX4_turnTwo 26 = .ok (.lload 5, 2) := by decide +kernel
theorem dX4_turnTwo_28 : decode cX4_turnTwo 28 = .ok (.lsub, 1) := by decide +kernel
theorem dX4_turnTwo_29 : decode cX4_turnTwo 29 = .ok (.goto 8, 3) := by decide +kernel
theorem dX4_turnTwo_32 : decode cX4_turnTwo 32 = .ok (.lload 7, 2) := by decide +kernel
theorem dX4_turnTwo_34 : decode cX4_turnTwo 34 = .ok (.lload 5, 2) := by decide +kernel
theorem dX4_turnTwo_36 : decode cX4_turnTwo 36 = .ok (.ladd, 1) := by decide +kernel
theorem dX4_turnTwo_37 : decode cX4_turnTwo 37 = .ok (.invokestatic 124, 3) := by decide +kernel
theorem dX4_turnTwo_40 : decode cX4_turnTwo 40 = .ok (.iastore, 1) := by decide +kernel
theorem dX4_turnTwo_41 : decode cX4_turnTwo 41 = .ok (.goto 77, 3) := by decide +kernel
theorem dX4_turnTwo_44 : decode cX4_turnTwo 44 = .ok (.iload_n 3, 1) := by decide +kernel
theorem dX4_turnTwo_45 : decode cX4_turnTwo 45 = .ok (.iconst 2, 1) := by decide +kernel
theorem dX4_turnTwo_46 : decode cX4_turnTwo 46 = .ok (.if_icmp .ne 30, 3) := by decide +kernel
theorem dX4_turnTwo_49 : decode cX4_turnTwo 49 = .ok (.aload_n 0, 1) := by decide +kernel
theorem dX4_turnTwo_50 : decode cX4_turnTwo 50 = .ok (.iload_n 1, 1) := by decide +kernel
theorem dX4_turnTwo_51 : decode cX4_turnTwo 51 = .ok (.iload 4, 2) := by decide +kernel
theorem dX4_turnTwo_53 : decode cX4_turnTwo 53 = .ok (.ifCond .eq 11, 3) := by decide +kernel
theorem dX4_turnTwo_56 : decode cX4_turnTwo 56 = .ok (.lload 5, 2) := by decide +kernel
theorem dX4_turnTwo_58 : decode cX4_turnTwo 58 = .ok (.lload 7, 2) := by decide +kernel
theorem dX4_turnTwo_60 : decode cX4_turnTwo 60 = .ok (.lsub, 1) := by decide +kernel
theorem dX4_turnTwo_61 : decode cX4_turnTwo 61 = .ok (.goto 8, 3) := by decide +kernel
theorem dX4_turnTwo_64 : decode cX4_turnTwo 64 = .ok (.lload 5, 2) := by decide +kernel
theorem dX4_turnTwo_66 : decode cX4_turnTwo 66 = .ok (.lload 7, 2) := by decide +kernel
theorem dX4_turnTwo_68 : decode cX4_turnTwo 68 = .ok (.ladd, 1) := by decide +kernel
theorem dX4_turnTwo_69 : decode cX4_turnTwo 69 = .ok (.invokestatic 124, 3) := by decide +kernel
theorem dX4_turnTwo_72 : decode cX4_turnTwo 72 = .ok (.iastore, 1) := by decide +kernel
theorem dX4_turnTwo_73 : decode cX4_turnTwo 73 = .ok (.goto 45, 3) := by decide +kernel
theorem dX4_turnTwo_76 : decode cX4_turnTwo 76 = .ok (.iload 4, 2) := by decide +kernel
theorem dX4_turnTwo_78 : decode cX4_turnTwo 78 = .ok (.ifCond .eq 9, 3) := by decide +kernel
theorem dX4_turnTwo_81 : decode cX4_turnTwo 81 = .ok (.ldc2_w 255, 3) := by decide +kernel
theorem dX4_turnTwo_84 : decode cX4_turnTwo 84 = .ok (.goto 4, 3) := by decide +kernel
theorem dX4_turnTwo_87 : decode cX4_turnTwo 87 = .ok (.lconst 1, 1) := by decide +kernel
theorem dX4_turnTwo_88 : decode cX4_turnTwo 88 = .ok (.lstore 9, 2) := by decide +kernel
theorem dX4_turnTwo_90 : decode cX4_turnTwo 90 = .ok (.aload_n 0, 1) := by decide +kernel
theorem dX4_turnTwo_91 : decode cX4_turnTwo 91 = .ok (.iload_n 1, 1) := by decide +kernel
theorem dX4_turnTwo_92 : decode cX4_turnTwo 92 = .ok (.lload 5, 2) := by decide +kernel
theorem dX4_turnTwo_94 : decode cX4_turnTwo 94 = .ok (.lload 7, 2) := by decide +kernel
theorem dX4_turnTwo_96 : decode cX4_turnTwo 96 = .ok (.ladd, 1) := by decide +kernel
theorem dX4_turnTwo_97 : decode cX4_turnTwo 97 = .ok (.lload 9, 2) := by decide +kernel
theorem dX4_turnTwo_99 : decode cX4_turnTwo 99 = .ok (.lmul, 1) := by decide +kernel
theorem dX4_turnTwo_100 : decode cX4_turnTwo 100 = .ok (.invokestatic 124, 3) := by decide +kernel
theorem dX4_turnTwo_103 : decode cX4_turnTwo 103 = .ok (.iastore, 1) := by decide +kernel
theorem dX4_turnTwo_104 : decode cX4_turnTwo 104 = .ok (.aload_n 0, 1) := by decide +kernel
theorem dX4_turnTwo_105 : decode cX4_turnTwo 105 = .ok (.iload_n 2, 1) := by decide +kernel
theorem dX4_turnTwo_106 : decode cX4_turnTwo 106 = .ok (.lload 5, 2) := by decide +kernel
theorem dX4_turnTwo_108 : decode cX4_turnTwo 108 = .ok (.lload 7, 2) := by decide +kernel
theorem dX4_turnTwo_110 : decode cX4_turnTwo 110 = .ok (.lsub, 1) := by decide +kernel
theorem dX4_turnTwo_111 : decode cX4_turnTwo 111 = .ok (.lload 9, 2) := by decide +kernel
theorem dX4_turnTwo_113 : decode cX4_turnTwo 113 = .ok (.lmul, 1) := by decide +kernel
theorem dX4_turnTwo_114 : decode cX4_turnTwo 114 = .ok (.invokestatic 124, 3) := by decide +kernel
theorem dX4_turnTwo_117 : decode cX4_turnTwo 117 = .ok (.iastore, 1) := by decide +kernel
theorem dX4_turnTwo_118 : decode cX4_turnTwo 118 = .ok (.return_, 1) := by decide +kernel
theorem dX4_reduce_0 : decode cX4_reduce 0 = .ok (.lload_n 0, 1) := by decide +kernel
theorem dX4_reduce_1 : decode cX4_reduce 1 = .ok (.ldc2_w 257, 3) := by decide +kernel
theorem dX4_reduce_4 : decode cX4_reduce 4 = .ok (.lrem, 1) := by decide +kernel
theorem dX4_reduce_5 : decode cX4_reduce 5 = .ok (.lstore_n 2, 1) := by decide +kernel
theorem dX4_reduce_6 : decode cX4_reduce 6 = .ok (.lload_n 2, 1) := by decide +kernel
theorem dX4_reduce_7 : decode cX4_reduce 7 = .ok (.lconst 0, 1) := by decide +kernel
theorem dX4_reduce_8 : decode cX4_reduce 8 = .ok (.lcmp, 1) := by decide +kernel
theorem dX4_reduce_9 : decode cX4_reduce 9 = .ok (.ifCond .ge 11, 3) := by decide +kernel
theorem dX4_reduce_12 : decode cX4_reduce 12 = .ok (.lload_n 2, 1) := by decide +kernel
theorem dX4_reduce_13 : decode cX4_reduce 13 = .ok (.ldc2_w 257, 3) := by decide +kernel
theorem dX4_reduce_16 : decode cX4_reduce 16 = .ok (.ladd, 1) := by decide +kernel
theorem dX4_reduce_17 : decode cX4_reduce 17 = .ok (.goto 4, 3) := by decide +kernel
theorem dX4_reduce_20 : decode cX4_reduce 20 = .ok (.lload_n 2, 1) := by decide +kernel
theorem dX4_reduce_21 : decode cX4_reduce 21 = .ok (.l2i, 1) := by decide +kernel
theorem dX4_reduce_22 : decode cX4_reduce 22 = .ok (.ireturn, 1) := by decide +kernel
theorem dX4_raise_0 : decode cX4_raise 0 = .ok (.lconst 1, 1) := by decide +kernel
theorem dX4_raise_1 : decode cX4_raise 1 = .ok (.lstore_n 2, 1) := by decide +kernel
theorem dX4_raise_2 : decode cX4_raise 2 = .ok (.iload_n 0, 1) := by decide +kernel
theorem dX4_raise_3 : decode cX4_raise 3 = .ok (.i2l, 1) := by decide +kernel
theorem dX4_raise_4 : decode cX4_raise 4 = .ok (.lstore 4, 2) := by decide +kernel
theorem dX4_raise_6 : decode cX4_raise 6 = .ok (.iload_n 1, 1) := by decide +kernel
theorem dX4_raise_7 : decode cX4_raise 7 = .ok (.istore 6, 2) := by decide +kernel
theorem dX4_raise_9 : decode cX4_raise 9 = .ok (.iload 6, 2) := by decide +kernel
theorem dX4_raise_11 : decode cX4_raise 11 = .ok (.ifCond .le 40, 3) := by decide +kernel
theorem dX4_raise_14 : decode cX4_raise 14 = .ok (.iload 6, 2) := by decide +kernel
theorem dX4_raise_16 : decode cX4_raise 16 = .ok (.iconst 1, 1) := by decide +kernel
theorem dX4_raise_17 : decode cX4_raise 17 = .ok (.iand, 1) := by decide +kernel
theorem dX4_raise_18 : decode cX4_raise 18 = .ok (.iconst 1, 1) := by decide +kernel
theorem dX4_raise_19 : decode cX4_raise 19 = .ok (.if_icmp .ne 12, 3) := by decide +kernel
theorem dX4_raise_22 : decode cX4_raise 22 = .ok (.lload_n 2, 1) := by decide +kernel
theorem dX4_raise_23 : decode cX4_raise 23 = .ok (.lload 4, 2) := by decide +kernel
theorem dX4_raise_25 : decode cX4_raise 25 = .ok (.lmul, 1) := by decide +kernel
theorem dX4_raise_26 : decode cX4_raise 26 = .ok (.ldc2_w 257, 3) := by decide +kernel
theorem dX4_raise_29 : decode cX4_raise 29 = .ok (.lrem, 1) := by decide +kernel
theorem dX4_raise_30 : decode cX4_raise 30 = .ok (.lstore_n 2, 1) := by decide +kernel
theorem dX4_raise_31 : decode cX4_raise 31 = .ok (.lload 4, 2) := by decide +kernel
theorem dX4_raise_33 : decode cX4_raise 33 = .ok (.lload 4, 2) := by decide +kernel
theorem dX4_raise_35 : decode cX4_raise 35 = .ok (.lmul, 1) := by decide +kernel
theorem dX4_raise_36 : decode cX4_raise 36 = .ok (.ldc2_w 257, 3) := by decide +kernel
theorem dX4_raise_39 : decode cX4_raise 39 = .ok (.lrem, 1) := by decide +kernel
theorem dX4_raise_40 : decode cX4_raise 40 = .ok (.lstore 4, 2) := by decide +kernel
theorem dX4_raise_42 : decode cX4_raise 42 = .ok (.iload 6, 2) := by decide +kernel
theorem dX4_raise_44 : decode cX4_raise 44 = .ok (.iconst 1, 1) := by decide +kernel
theorem dX4_raise_45 : decode cX4_raise 45 = .ok (.ishr, 1) := by decide +kernel
theorem dX4_raise_46 : decode cX4_raise 46 = .ok (.istore 6, 2) := by decide +kernel
theorem dX4_raise_48 : decode cX4_raise 48 = .ok (.goto (-39), 3) := by decide +kernel
theorem dX4_raise_51 : decode cX4_raise 51 = .ok (.lload_n 2, 1) := by decide +kernel
theorem dX4_raise_52 : decode cX4_raise 52 = .ok (.l2i, 1) := by decide +kernel
theorem dX4_raise_53 : decode cX4_raise 53 = .ok (.ireturn, 1) := by decide +kernel
theorem dX4_leastThing_0 : decode cX4_leastThing 0 = .ok (.iconst 0, 1) := by decide +kernel
theorem dX4_leastThing_1 : decode cX4_leastThing 1 = .ok (.istore_n 1, 1) := by decide +kernel
theorem dX4_leastThing_2 : decode cX4_leastThing 2 = .ok (.iload_n 1, 1) := by decide +kernel
theorem dX4_leastThing_3 : decode cX4_leastThing 3 = .ok (.bipush 8, 2) := by decide +kernel
theorem dX4_leastThing_5 : decode cX4_leastThing 5 = .ok (.if_icmp .ge 20, 3) := by decide +kernel
theorem dX4_leastThing_8 : decode cX4_leastThing 8 = .ok (.iload_n 0, 1) := by decide +kernel
theorem dX4_leastThing_9 : decode cX4_leastThing 9 = .ok (.iload_n 1, 1) := by decide +kernel
theorem dX4_leastThing_10 : decode cX4_leastThing 10 = .ok (.ishr, 1) := by decide +kernel
theorem dX4_leastThing_11 : decode cX4_leastThing 11 = .ok (.iconst 1, 1) := by decide +kernel
theorem dX4_leastThing_12 : decode cX4_leastThing 12 = .ok (.iand, 1) := by decide +kernel
theorem dX4_leastThing_13 : decode cX4_leastThing 13 = .ok (.iconst 1, 1) := by decide +kernel
theorem dX4_leastThing_14 : decode cX4_leastThing 14 = .ok (.if_icmp .ne 5, 3) := by decide +kernel
theorem dX4_leastThing_17 : decode cX4_leastThing 17 = .ok (.iload_n 1, 1) := by decide +kernel
theorem dX4_leastThing_18 : decode cX4_leastThing 18 = .ok (.ireturn, 1) := by decide +kernel
theorem dX4_leastThing_19 : decode cX4_leastThing 19 = .ok (.iinc 1 1, 3) := by decide +kernel
theorem dX4_leastThing_22 : decode cX4_leastThing 22 = .ok (.goto (-20), 3) := by decide +kernel
theorem dX4_leastThing_25 : decode cX4_leastThing 25 = .ok (.iconst 0, 1) := by decide +kernel
theorem dX4_leastThing_26 : decode cX4_leastThing 26 = .ok (.ireturn, 1) := by decide +kernel
set_option maxRecDepth 20000 in
theorem ggX4_measureAll_X1_countSets : GoodIn wsX4_measureAll wsX1_countSets := goodIn_r _ [5, 6, 34, 35, 36, 37] (by decide +kernel) (by decide +kernel)
set_option maxRecDepth 20000 in
theorem gX4_measureAll_X1_countSets : GoodIn wsX4_measureAll (wsV RX4 132 RX1 yX1_countSets wsX1_countSets) := goodIn_app (goodIn_of _ (by decide +kernel)) ggX4_measureAll_X1_countSets
set_option maxRecDepth 20000 in
theorem ggX4_measureAll_X4_measureSet : GoodIn wsX4_measureAll wsX4_measureSet := goodIn_r _ [10, 11, 12, 13, 9, 14, 15, 16, 17, 18, 19, 20, 4, 21, 22, 23, 24, 25, 26, 27, 28, 29, 30, 31, 32, 33, 34, 35, 36, 37] (by decide +kernel) (by decide +kernel)
set_option maxRecDepth 20000 in
theorem gX4_measureAll_X4_measureSet : GoodIn wsX4_measureAll (va_wsS RX4 259 yX4_measureSet wsX4_measureSet) := goodIn_app (goodIn_of _ (by decide +kernel)) ggX4_measureAll_X4_measureSet
theorem dX4_measureAll_0 : decode cX4_measureAll 0 = .ok (.iconst 0, 1) := by decide +kernel
theorem dX4_measureAll_1 : decode cX4_measureAll 1 = .ok (.istore_n 3, 1) := by decide +kernel
theorem dX4_measureAll_2 : decode cX4_measureAll 2 = .ok (.iload_n 3, 1) := by decide +kernel
theorem dX4_measureAll_3 : decode cX4_measureAll 3 = .ok (.aload_n 0, 1) := by decide +kernel
theorem dX4_measureAll_4 : decode cX4_measureAll 4 = .ok (.invokevirtual 132, 3) := by decide +kernel
theorem dX4_measureAll_7 : decode cX4_measureAll 7 = .ok (.if_icmp .ge 19, 3) := by decide +kernel
theorem dX4_measureAll_10 : decode cX4_measureAll 10 = .ok (.aload_n 2, 1) := by decide +kernel
theorem dX4_measureAll_11 : decode cX4_measureAll 11 = .ok (.iload_n 3, 1) := by decide +kernel
theorem dX4_measureAll_12 : decode cX4_measureAll 12 = .ok (.aload_n 0, 1) := by decide +kernel
theorem dX4_measureAll_13 : decode cX4_measureAll 13 = .ok (.iload_n 1, 1) := by decide +kernel
theorem dX4_measureAll_14 : decode cX4_measureAll 14 = .ok (.iload_n 3, 1) := by decide +kernel
theorem dX4_measureAll_15 : decode cX4_measureAll 15 = .ok (.aload_n 2, 1) := by decide +kernel
theorem dX4_measureAll_16 : decode cX4_measureAll 16 = .ok (.invokestatic 259, 3) := by decide +kernel
theorem dX4_measureAll_19 : decode cX4_measureAll 19 = .ok (.iastore, 1) := by decide +kernel
theorem dX4_measureAll_20 : decode cX4_measureAll 20 = .ok (.iinc 3 1, 3) := by decide +kernel
theorem dX4_measureAll_23 : decode cX4_measureAll 23 = .ok (.goto (-21), 3) := by decide +kernel
theorem dX4_measureAll_26 : decode cX4_measureAll 26 = .ok (.return_, 1) := by decide +kernel
set_option maxRecDepth 20000 in
theorem ggX4_measureSet_X4_measurePairs : GoodIn wsX4_measureSet wsX4_measurePairs := goodIn_r _ [5, 6, 7, 4, 8, 9, 10, 11, 12, 13, 14, 15, 16, 17, 18, 19, 20, 21, 26, 27, 28, 29] (by decide +kernel) (by decide +kernel)
set_option maxRecDepth 20000 in
theorem gX4_measureSet_X4_measurePairs : GoodIn wsX4_measureSet (va_wsS RX4 263 yX4_measurePairs wsX4_measurePairs) := goodIn_app (goodIn_of _ (by decide +kernel)) ggX4_measureSet_X4_measurePairs
set_option maxRecDepth 20000 in
theorem ggX4_measureSet_X4_hangsWhole : GoodIn wsX4_measureSet wsX4_hangsWhole := goodIn_r _ [24, 25, 9, 10, 11, 12, 13, 14, 26, 27, 28, 29] (by decide +kernel) (by decide +kernel)
set_option maxRecDepth 20000 in
theorem gX4_measureSet_X4_hangsWhole : GoodIn wsX4_measureSet (va_wsS RX4 266 yX4_hangsWhole wsX4_hangsWhole) := goodIn_app (goodIn_of _ (by decide +kernel)) ggX4_measureSet_X4_hangsWhole
set_option maxRecDepth 20000 in
theorem ggX4_measureSet_J6_bitCount_0f7a4 : GoodIn wsX4_measureSet wsJ6_bitCount_0f7a4 := goodIn_r _ [18, 19, 20, 21] (by decide +kernel) (by decide +kernel)
set_option maxRecDepth 20000 in
theorem gX4_measureSet_J6_bitCount_0f7a4 : GoodIn wsX4_measureSet (va_wsS RX4 270 yJ6_bitCount_0f7a4 wsJ6_bitCount_0f7a4) := goodIn_app (goodIn_of _ (by decide +kernel)) ggX4_measureSet_J6_bitCount_0f7a4
theorem dX4_measureSet_0 : decode cX4_measureSet 0 = .ok (.iload_n 1, 1) := by decide +kernel
theorem dX4_measureSet_1 : decode cX4_measureSet 1 = .ok (.tableswitch 105 0 6 #[43, 52, 69, 69, 69, 85, 100], 43) := by decide +kernel
theorem dX4_measureSet_44 : decode cX4_measureSet 44 = .ok (.aload_n 0, 1) := by decide +kernel
theorem dX4_measureSet_45 : decode cX4_measureSet 45 = .ok (.getfield 106, 3) := by decide +kernel
theorem dX4_measureSet_48 : decode cX4_measureSet 48 = .ok (.iconst 4, 1) := by decide +kernel
theorem dX4_measureSet_49 : decode cX4_measureSet 49 = .ok (.aaload, 1) := by decide +kernel
theorem dX4_measureSet_50 : decode cX4_measureSet 50 = .ok (.iload_n 2, 1) := by decide +kernel
theorem dX4_measureSet_51 : decode cX4_measureSet 51 = .ok (.iaload, 1) := by decide +kernel
theorem dX4_measureSet_52 : decode cX4_measureSet 52 = .ok (.ireturn, 1) := by decide +kernel
theorem dX4_measureSet_53 : decode cX4_measureSet 53 = .ok (.aload_n 0, 1) := by decide +kernel
theorem dX4_measureSet_54 : decode cX4_measureSet 54 = .ok (.getfield 106, 3) := by decide +kernel
theorem dX4_measureSet_57 : decode cX4_measureSet 57 = .ok (.iconst 4, 1) := by decide +kernel
theorem dX4_measureSet_58 : decode cX4_measureSet 58 = .ok (.aaload, 1) := by decide +kernel
theorem dX4_measureSet_59 : decode cX4_measureSet 59 = .ok (.iload_n 2, 1) := by decide +kernel
theorem dX4_measureSet_60 : decode cX4_measureSet 60 = .ok (.iaload, 1) := by decide +kernel
theorem dX4_measureSet_61 : decode cX4_measureSet 61 = .ok (.ifCond .le 7, 3) := by decide +kernel
theorem dX4_measureSet_64 : decode cX4_measureSet 64 = .ok (.iconst 1, 1) := by decide +kernel
theorem dX4_measureSet_65 : decode cX4_measureSet 65 = .ok (.goto 4, 3) := by decide +kernel
theorem dX4_measureSet_68 : decode cX4_measureSet 68 = .ok (.iconst 0, 1) := by decide +kernel
theorem dX4_measureSet_69 : decode cX4_measureSet 69 = .ok (.ireturn, 1) := by decide +kernel
theorem dX4_measureSet_70 : decode cX4_measureSet 70 = .ok (.iload_n 2, 1) := by decide +kernel
theorem dX4_measureSet_71 : decode cX4_measureSet 71 = .ok (.ifCond .ne 7, 3) := by decide +kernel
theorem dX4_measureSet_74 : decode cX4_measureSet 74 = .ok (.iconst 1, 1) := by decide +kernel
theorem dX4_measureSet_75 : decode cX4_measureSet 75 = .ok (.goto 10, 3) := by decide +kernel
theorem dX4_measureSet_78 : decode cX4_measureSet 78 = .ok (.aload_n 0, 1) := by decide +kernel
theorem dX4_measureSet_79 : decode cX4_measureSet 79 = .ok (.iload_n 1, 1) := by decide +kernel
theorem dX4_measureSet_80 : decode cX4_measureSet 80 = .ok (.iload_n 2, 1) := by decide +kernel
theorem dX4_measureSet_81 : decode cX4_measureSet 81 = .ok (.aload_n 3, 1) := by decide +kernel
theorem dX4_measureSet_82 : decode cX4_measureSet 82 = .ok (.invokestatic 263, 3) := by decide +kernel
theorem dX4_measureSet_85 : decode cX4_measureSet 85 = .ok (.ireturn, 1) := by decide +kernel
theorem dX4_measureSet_86 : decode cX4_measureSet 86 = .ok (.aload_n 0, 1) := by decide +kernel
theorem dX4_measureSet_87 : decode cX4_measureSet 87 = .ok (.iload_n 2, 1) := by decide +kernel
theorem dX4_measureSet_88 : decode cX4_measureSet 88 = .ok (.aload_n 3, 1) := by decide +kernel
theorem dX4_measureSet_89 : decode cX4_measureSet 89 = .ok (.invokestatic 266, 3) := by decide +kernel
theorem dX4_measureSet_92 : decode cX4_measureSet 92 = .ok (.ifCond .eq 7, 3) := by decide +kernel
theorem dX4_measureSet_95 : decode cX4_measureSet 95 = .ok (.iconst 1, 1) := by decide +kernel
theorem dX4_measureSet_96 : decode cX4_measureSet 96 = .ok (.goto 4, 3) := by decide +kernel
theorem dX4_measureSet_99 : decode cX4_measureSet 99 = .ok (.iconst 0, 1) := by decide +kernel
theorem dX4_measureSet_100 : decode cX4_measureSet 100 = .ok (.ireturn, 1) := by decide +kernel
theorem dX4_measureSet_101 : decode cX4_measureSet 101 = .ok (.iload_n 2, 1) := by decide +kernel
theorem dX4_measureSet_102 : decode cX4_measureSet 102 = .ok (.invokestatic 270, 3) := by decide +kernel
theorem dX4_measureSet_105 : decode cX4_measureSet 105 = .ok (.ireturn, 1) := by decide +kernel
theorem dX4_measureSet_106 : decode cX4_measureSet 106 = .ok (.iload_n 2, 1) := by decide +kernel
theorem dX4_measureSet_107 : decode cX4_measureSet 107 = .ok (.ifCond .ne 7, 3) := by decide +kernel
theorem dX4_measureSet_110 : decode cX4_measureSet 110 = .ok (.iconst 1, 1) := by decide +kernel
theorem dX4_measureSet_111 : decode cX4_measureSet 111 = .ok (.goto 4, 3) := by decide +kernel
theorem dX4_measureSet_114 : decode cX4_measureSet 114 = .ok (.iconst 0, 1) := by decide +kernel
theorem dX4_measureSet_115 : decode cX4_measureSet 115 = .ok (.ireturn, 1) := by decide +kernel
set_option maxRecDepth 20000 in
theorem ggX4_measurePairs_X4_leastThing : GoodIn wsX4_measurePairs wsX4_leastThing := goodIn_r _ [4] (by decide +kernel) (by decide +kernel)
set_option maxRecDepth 20000 in
theorem gX4_measurePairs_X4_leastThing : GoodIn wsX4_measurePairs (va_wsS RX4 275 yX4_leastThing wsX4_leastThing) := goodIn_app (goodIn_of _ (by decide +kernel)) ggX4_measurePairs_X4_leastThing
set_option maxRecDepth 20000 in
theorem ggX4_measurePairs_X1_mates : GoodIn wsX4_measurePairs wsX1_mates := goodIn_r _ [9, 10, 18, 19, 20, 21] (by decide +kernel) (by decide +kernel)
set_option maxRecDepth 20000 in
theorem gX4_measurePairs_X1_mates : GoodIn wsX4_measurePairs (wsV RX4 113 RX1 yX1_mates wsX1_mates) := goodIn_app (goodIn_of _ (by decide +kernel)) ggX4_measurePairs_X1_mates
set_option maxRecDepth 20000 in
theorem ggX4_measurePairs_J6_bitCount_0f7a4 : GoodIn wsX4_measurePairs wsJ6_bitCount_0f7a4 := goodIn_r _ [14, 15, 16, 17] (by decide +kernel) (by decide +kernel)
set_option maxRecDepth 20000 in
theorem gX4_measurePairs_J6_bitCount_0f7a4 : GoodIn wsX4_measurePairs (va_wsS RX4 270 yJ6_bitCount_0f7a4 wsJ6_bitCount_0f7a4) := goodIn_app (goodIn_of _ (by decide +kernel)) ggX4_measurePairs_J6_bitCount_0f7a4
theorem dX4_measurePairs_0 : decode cX4_measurePairs 0 = .ok (.iload_n 2, 1) := by decide +kernel
theorem dX4_measurePairs_1 : decode cX4_measurePairs 1 = .ok (.invokestatic 275, 3) := by decide +kernel
theorem dX4_measurePairs_4 : decode cX4_measurePairs 4 = .ok (.istore 4, 2) := by decide +kernel
theorem dX4_measurePairs_6 : decode cX4_measurePairs 6 = .ok (.iload_n 2, 1) := by decide +kernel
theorem dX4_measurePairs_7 : decode cX4_measurePairs 7 = .ok (.iload_n 2, 1) := by decide +kernel
theorem dX4_measurePairs_8 : decode cX4_measurePairs 8 = .ok (.iconst 1, 1) := by decide +kernel
theorem dX4_measurePairs_9 : decode cX4_measurePairs 9 = .ok (.isub, 1) := by decide +kernel
theorem dX4_measurePairs_10 : decode cX4_measurePairs 10 = .ok (.iand, 1) := by decide +kernel
theorem dX4_measurePairs_11 : decode cX4_measurePairs 11 = .ok (.istore 5, 2) := by decide +kernel
theorem dX4_measurePairs_13 : decode cX4_measurePairs 13 = .ok (.aload_n 0, 1) := by decide +kernel
theorem dX4_measurePairs_14 : decode cX4_measurePairs 14 = .ok (.iload 4, 2) := by decide +kernel
theorem dX4_measurePairs_16 : decode cX4_measurePairs 16 = .ok (.invokevirtual 113, 3) := by decide +kernel
theorem dX4_measurePairs_19 : decode cX4_measurePairs 19 = .ok (.iload 5, 2) := by decide +kernel
theorem dX4_measurePairs_21 : decode cX4_measurePairs 21 = .ok (.iand, 1) := by decide +kernel
theorem dX4_measurePairs_22 : decode cX4_measurePairs 22 = .ok (.istore 6, 2) := by decide +kernel
theorem dX4_measurePairs_24 : decode cX4_measurePairs 24 = .ok (.iload_n 1, 1) := by decide +kernel
theorem dX4_measurePairs_25 : decode cX4_measurePairs 25 = .ok (.iconst 2, 1) := by decide +kernel
theorem dX4_measurePairs_26 : decode cX4_measurePairs 26 = .ok (.if_icmp .ne 17, 3) := by decide +kernel
theorem dX4_measurePairs_29 : decode cX4_measurePairs 29 = .ok (.iload 6, 2) := by decide +kernel
theorem dX4_measurePairs_31 : decode cX4_measurePairs 31 = .ok (.ifCond .ne 10, 3) := by decide +kernel
theorem dX4_measurePairs_34 : decode cX4_measurePairs 34 = .ok (.aload_n 3, 1) := by decide +kernel
theorem dX4_measurePairs_35 : decode cX4_measurePairs 35 = .ok (.iload 5, 2) := by decide +kernel
theorem dX4_measurePairs_37 : decode cX4_measurePairs 37 = .ok (.iaload, 1) := by decide +kernel
theorem dX4_measurePairs_38 : decode cX4_measurePairs 38 = .ok (.goto 4, 3) := by decide +kernel
theorem dX4_measurePairs_41 : decode cX4_measurePairs 41 = .ok (.iconst 0, 1) := by decide +kernel
theorem dX4_measurePairs_42 : decode cX4_measurePairs 42 = .ok (.ireturn, 1) := by decide +kernel
theorem dX4_measurePairs_43 : decode cX4_measurePairs 43 = .ok (.iload_n 1, 1) := by decide +kernel
theorem dX4_measurePairs_44 : decode cX4_measurePairs 44 = .ok (.iconst 3, 1) := by decide +kernel
theorem dX4_measurePairs_45 : decode cX4_measurePairs 45 = .ok (.if_icmp .ne 19, 3) := by decide +kernel
theorem dX4_measurePairs_48 : decode cX4_measurePairs 48 = .ok (.iload 6, 2) := by decide +kernel
theorem dX4_measurePairs_50 : decode cX4_measurePairs 50 = .ok (.iload 5, 2) := by decide +kernel
theorem dX4_measurePairs_52 : decode cX4_measurePairs 52 = .ok (.if_icmp .ne 10, 3) := by decide +kernel
theorem dX4_measurePairs_55 : decode cX4_measurePairs 55 = .ok (.aload_n 3, 1) := by decide +kernel
theorem dX4_measurePairs_56 : decode cX4_measurePairs 56 = .ok (.iload 5, 2) := by decide +kernel
theorem dX4_measurePairs_58 : decode cX4_measurePairs 58 = .ok (.iaload, 1) := by decide +kernel
theorem dX4_measurePairs_59 : decode cX4_measurePairs 59 = .ok (.goto 4, 3) := by decide +kernel
theorem dX4_measurePairs_62 : decode cX4_measurePairs 62 = .ok (.iconst 0, 1) := by decide +kernel
theorem dX4_measurePairs_63 : decode cX4_measurePairs 63 = .ok (.ireturn, 1) := by decide +kernel
theorem dX4_measurePairs_64 : decode cX4_measurePairs 64 = .ok (.aload_n 3, 1) := by decide +kernel
theorem dX4_measurePairs_65 : decode cX4_measurePairs 65 = .ok (.iload 5, 2) := by decide +kernel
theorem dX4_measurePairs_67 : decode cX4_measurePairs 67 = .ok (.iaload, 1) := by decide +kernel
theorem dX4_measurePairs_68 : decode cX4_measurePairs 68 = .ok (.iload 6, 2) := by decide +kernel
theorem dX4_measurePairs_70 : decode cX4_measurePairs 70 = .ok (.invokestatic 270, 3) := by decide +kernel
theorem dX4_measurePairs_73 : decode cX4_measurePairs 73 = .ok (.ishl, 1) := by decide +kernel
theorem dX4_measurePairs_74 : decode cX4_measurePairs 74 = .ok (.ireturn, 1) := by decide +kernel
set_option maxRecDepth 20000 in
theorem ggX4_hangsWhole_X1_mates : GoodIn wsX4_hangsWhole wsX1_mates := goodIn_r _ [6, 7, 8, 9, 10, 11] (by decide +kernel) (by decide +kernel)
set_option maxRecDepth 20000 in
theorem gX4_hangsWhole_X1_mates : GoodIn wsX4_hangsWhole (wsV RX4 113 RX1 yX1_mates wsX1_mates) := goodIn_app (goodIn_of _ (by decide +kernel)) ggX4_hangsWhole_X1_mates
theorem dX4_hangsWhole_0 : decode cX4_hangsWhole 0 = .ok (.iconst 0, 1) := by decide +kernel
theorem dX4_hangsWhole_1 : decode cX4_hangsWhole 1 = .ok (.istore_n 3, 1) := by decide +kernel
theorem dX4_hangsWhole_2 : decode cX4_hangsWhole 2 = .ok (.iload_n 3, 1) := by decide +kernel
theorem dX4_hangsWhole_3 : decode cX4_hangsWhole 3 = .ok (.aload_n 0, 1) := by decide +kernel
theorem dX4_hangsWhole_4 : decode cX4_hangsWhole 4 = .ok (.getfield 92, 3) := by decide +kernel
theorem dX4_hangsWhole_7 : decode cX4_hangsWhole 7 = .ok (.if_icmp .ge 50, 3) := by decide +kernel
theorem dX4_hangsWhole_10 : decode cX4_hangsWhole 10 = .ok (.iload_n 1, 1) := by decide +kernel
theorem dX4_hangsWhole_11 : decode cX4_hangsWhole 11 = .ok (.iconst 1, 1) := by decide +kernel
theorem dX4_hangsWhole_12 : decode cX4_hangsWhole 12 = .ok (.iload_n 3, 1) := by decide +kernel
theorem dX4_hangsWhole_13 : decode cX4_hangsWhole 13 = .ok (.ishl, 1) := by decide +kernel
theorem dX4_hangsWhole_14 : decode cX4_hangsWhole 14 = .ok (.ixor, 1) := by decide +kernel
theorem dX4_hangsWhole_15 : decode cX4_hangsWhole 15 = .ok (.istore 4, 2) := by decide +kernel
theorem dX4_hangsWhole_17 : decode cX4_hangsWhole 17 = .ok (.iload 4, 2) := by decide +kernel
theorem dX4_hangsWhole_19 : decode cX4_hangsWhole 19 = .ok (.ifCond .ne 5, 3) := by decide +kernel
theorem dX4_hangsWhole_22 : decode cX4_hangsWhole 22 = .ok (.iconst 1, 1) := by decide +kernel
theorem dX4_hangsWhole_23 : decode cX4_hangsWhole 23 = .ok (.ireturn, 1) := by decide +kernel
theorem dX4_hangsWhole_24 : decode cX4_hangsWhole 24 = .ok (.iload 4, 2) := by decide +kernel
theorem dX4_hangsWhole_26 : decode cX4_hangsWhole 26 = .ok (.iload_n 1, 1) := by decide +kernel
theorem dX4_hangsWhole_27 : decode cX4_hangsWhole 27 = .ok (.if_icmp .ge 24, 3) := by decide +kernel
theorem dX4_hangsWhole_30 : decode cX4_hangsWhole 30 = .ok (.aload_n 2, 1) := by decide +kernel
theorem dX4_hangsWhole_31 : decode cX4_hangsWhole 31 = .ok (.iload 4, 2) := by decide +kernel
theorem dX4_hangsWhole_33 : decode cX4_hangsWhole 33 = .ok (.iaload, 1) := by decide +kernel
theorem dX4_hangsWhole_34 : decode cX4_hangsWhole 34 = .ok (.iconst 1, 1) := by decide +kernel
theorem dX4_hangsWhole_35 : decode cX4_hangsWhole 35 = .ok (.if_icmp .ne 16, 3) := by decide +kernel
theorem dX4_hangsWhole_38 : decode cX4_hangsWhole 38 = .ok (.aload_n 0, 1) := by decide +kernel
theorem dX4_hangsWhole_39 : decode cX4_hangsWhole 39 = .ok (.iload_n 3, 1) := by decide +kernel
theorem dX4_hangsWhole_40 : decode cX4_hangsWhole 40 = .ok (.invokevirtual 113, 3) := by decide +kernel
theorem dX4_hangsWhole_43 : decode cX4_hangsWhole 43 = .ok (.iload 4, 2) := by decide +kernel
theorem dX4_hangsWhole_45 : decode cX4_hangsWhole 45 = .ok (.iand, 1) := by decide +kernel
theorem dX4_hangsWhole_46 : decode cX4_hangsWhole 46 = .ok (.ifCond .eq 5, 3) := by decide +kernel
theorem dX4_hangsWhole_49 : decode cX4_hangsWhole 49 = .ok (.iconst 1, 1) := by decide +kernel
theorem dX4_hangsWhole_50 : decode cX4_hangsWhole 50 = .ok (.ireturn, 1) := by decide +kernel
theorem dX4_hangsWhole_51 : decode cX4_hangsWhole 51 = .ok (.iinc 3 1, 3) := by decide +kernel
theorem dX4_hangsWhole_54 : decode cX4_hangsWhole 54 = .ok (.goto (-52), 3) := by decide +kernel
theorem dX4_hangsWhole_57 : decode cX4_hangsWhole 57 = .ok (.iconst 0, 1) := by decide +kernel
theorem dX4_hangsWhole_58 : decode cX4_hangsWhole 58 = .ok (.ireturn, 1) := by decide +kernel
set_option maxRecDepth 20000 in
theorem ggX4_priceParts_X4_leastPrice : GoodIn wsX4_priceParts wsX4_leastPrice := goodIn_r _ [6, 7, 8, 9, 10, 11, 12, 13, 5, 14, 15, 16, 1, 17, 18, 19, 20, 21, 22, 23, 24, 25, 26, 27, 28, 29, 30] (by decide +kernel) (by decide +kernel)
set_option maxRecDepth 20000 in
theorem gX4_priceParts_X4_leastPrice : GoodIn wsX4_priceParts (wsV RX4 278 RX4 yX4_leastPrice wsX4_leastPrice) := goodIn_app (goodIn_of _ (by decide +kernel)) ggX4_priceParts_X4_leastPrice
theorem dX4_priceParts_0 : decode cX4_priceParts 0 = .ok (.aload_n 0, 1) := by decide +kernel
theorem dX4_priceParts_1 : decode cX4_priceParts 1 = .ok (.getfield 43, 3) := by decide +kernel
theorem dX4_priceParts_4 : decode cX4_priceParts 4 = .ok (.iconst 0, 1) := by decide +kernel
theorem dX4_priceParts_5 : decode cX4_priceParts 5 = .ok (.iconst 0, 1) := by decide +kernel
theorem dX4_priceParts_6 : decode cX4_priceParts 6 = .ok (.iastore, 1) := by decide +kernel
theorem dX4_priceParts_7 : decode cX4_priceParts 7 = .ok (.iconst 1, 1) := by decide +kernel
theorem dX4_priceParts_8 : decode cX4_priceParts 8 = .ok (.istore_n 2, 1) := by decide +kernel
theorem dX4_priceParts_9 : decode cX4_priceParts 9 = .ok (.iload_n 2, 1) := by decide +kernel
theorem dX4_priceParts_10 : decode cX4_priceParts 10 = .ok (.iload_n 1, 1) := by decide +kernel
theorem dX4_priceParts_11 : decode cX4_priceParts 11 = .ok (.if_icmp .gt 28, 3) := by decide +kernel
theorem dX4_priceParts_14 : decode cX4_priceParts 14 = .ok (.iload_n 2, 1) := by decide +kernel
theorem dX4_priceParts_15 : decode cX4_priceParts 15 = .ok (.iload_n 1, 1) := by decide +kernel
theorem dX4_priceParts_16 : decode cX4_priceParts 16 = .ok (.iconst (-1), 1) := by decide +kernel
theorem dX4_priceParts_17 : decode cX4_priceParts 17 = .ok (.ixor, 1) := by decide +kernel
theorem dX4_priceParts_18 : decode cX4_priceParts 18 = .ok (.iand, 1) := by decide +kernel
theorem dX4_priceParts_19 : decode cX4_priceParts 19 = .ok (.ifCond .ne 14, 3) := by decide +kernel
theorem dX4_priceParts_22 : decode cX4_priceParts 22 = .ok (.aload_n 0, 1) := by decide +kernel
theorem dX4_priceParts_23 : decode cX4_priceParts 23 = .ok (.getfield 43, 3) := by decide +kernel
theorem dX4_priceParts_26 : decode cX4_priceParts 26 = .ok (.iload_n 2, 1) := by decide +kernel
theorem dX4_priceParts_27 : decode cX4_priceParts 27 = .ok (.aload_n 0, 1) := by decide +kernel
theorem dX4_priceParts_28 : decode cX4_priceParts 28 = .ok (.iload_n 2, 1) := by decide +kernel
theorem dX4_priceParts_29 : decode cX4_priceParts 29 = .ok (.invokevirtual 278, 3) := by decide +kernel
theorem dX4_priceParts_32 : decode cX4_priceParts 32 = .ok (.iastore, 1) := by decide +kernel
theorem dX4_priceParts_33 : decode cX4_priceParts 33 = .ok (.iinc 2 1, 3) := by decide +kernel
theorem dX4_priceParts_36 : decode cX4_priceParts 36 = .ok (.goto (-27), 3) := by decide +kernel
theorem dX4_priceParts_39 : decode cX4_priceParts 39 = .ok (.return_, 1) := by decide +kernel
set_option maxRecDepth 20000 in
theorem ggX4_leastPrice_X4_priceWith : GoodIn wsX4_leastPrice wsX4_priceWith := goodIn_r _ [9, 10, 11, 12, 13, 14, 15, 16, 17, 18, 19, 20, 21, 22, 23, 24, 25, 26] (by decide +kernel) (by decide +kernel)
set_option maxRecDepth 20000 in
theorem gX4_leastPrice_X4_priceWith : GoodIn wsX4_leastPrice (wsV RX4 281 RX4 yX4_priceWith wsX4_priceWith) := goodIn_app (goodIn_of _ (by decide +kernel)) ggX4_leastPrice_X4_priceWith
theorem dX4_leastPrice_0 : decode cX4_leastPrice 0 = .ok (.iload_n 1, 1) := by decide +kernel
theorem dX4_leastPrice_1 : decode cX4_leastPrice 1 = .ok (.iload_n 1, 1) := by decide +kernel
theorem dX4_leastPrice_2 : decode cX4_leastPrice 2 = .ok (.iconst 1, 1) := by decide +kernel
theorem dX4_leastPrice_3 : decode cX4_leastPrice 3 = .ok (.isub, 1) := by decide +kernel
theorem dX4_leastPrice_4 : decode cX4_leastPrice 4 = .ok (.iand, 1) := by decide +kernel
theorem dX4_leastPrice_5 : decode cX4_leastPrice 5 = .ok (.istore_n 2, 1) := by decide +kernel
theorem dX4_leastPrice_6 : decode cX4_leastPrice 6 = .ok (.aload_n 0, 1) := by decide +kernel
theorem dX4_leastPrice_7 : decode cX4_leastPrice 7 = .ok (.iload_n 1, 1) := by decide +kernel
theorem dX4_leastPrice_8 : decode cX4_leastPrice 8 = .ok (.iload_n 1, 1) := by decide +kernel
theorem dX4_leastPrice_9 : decode cX4_leastPrice 9 = .ok (.iload_n 2, 1) := by decide +kernel
theorem dX4_leastPrice_10 : decode cX4_leastPrice 10 = .ok (.ixor, 1) := by decide +kernel
theorem dX4_leastPrice_11 : decode cX4_leastPrice 11 = .ok (.invokevirtual 281, 3) := by decide +kernel
theorem dX4_leastPrice_14 : decode cX4_leastPrice 14 = .ok (.istore_n 3, 1) := by decide +kernel
theorem dX4_leastPrice_15 : decode cX4_leastPrice 15 = .ok (.iload_n 2, 1) := by decide +kernel
theorem dX4_leastPrice_16 : decode cX4_leastPrice 16 = .ok (.istore 4, 2) := by decide +kernel
theorem dX4_leastPrice_18 : decode cX4_leastPrice 18 = .ok (.iload 4, 2) := by decide +kernel
theorem dX4_leastPrice_20 : decode cX4_leastPrice 20 = .ok (.ifCond .le 30, 3) := by decide +kernel
theorem dX4_leastPrice_23 : decode cX4_leastPrice 23 = .ok (.iload_n 3, 1) := by decide +kernel
theorem dX4_leastPrice_24 : decode cX4_leastPrice 24 = .ok (.aload_n 0, 1) := by decide +kernel
theorem dX4_leastPrice_25 : decode cX4_leastPrice 25 = .ok (.iload_n 1, 1) := by decide +kernel
theorem dX4_leastPrice_26 : decode cX4_leastPrice 26 = .ok (.iload_n 1, 1) := by decide +kernel
theorem dX4_leastPrice_27 : decode cX4_leastPrice 27 = .ok (.iload_n 2, 1) := by decide +kernel
theorem dX4_leastPrice_28 : decode cX4_leastPrice 28 = .ok (.ixor, 1) := by decide +kernel
theorem dX4_leastPrice_29 : decode cX4_leastPrice 29 = .ok (.iload 4, 2) := by decide +kernel
theorem dX4_leastPrice_31 : decode cX4_leastPrice 31 = .ok (.ior, 1) := by decide +kernel
theorem dX4_leastPrice_32 : decode cX4_leastPrice 32 = .ok (.invokevirtual 281, 3) := by decide +kernel
theorem dX4_leastPrice_35 : decode cX4_leastPrice 35 = .ok (.invokestatic 284, 3) := by decide +kernel
theorem dX4_leastPrice_38 : decode cX4_leastPrice 38 = .ok (.istore_n 3, 1) := by decide +kernel
theorem dX4_leastPrice_39 : decode cX4_leastPrice 39 = .ok (.iload 4, 2) := by decide +kernel
theorem dX4_leastPrice_41 : decode cX4_leastPrice 41 = .ok (.iconst 1, 1) := by decide +kernel
theorem dX4_leastPrice_42 : decode cX4_leastPrice 42 = .ok (.isub, 1) := by decide +kernel
theorem dX4_leastPrice_43 : decode cX4_leastPrice 43 = .ok (.iload_n 2, 1) := by decide +kernel
theorem dX4_leastPrice_44 : decode cX4_leastPrice 44 = .ok (.iand, 1) := by decide +kernel
theorem dX4_leastPrice_45 : decode cX4_leastPrice 45 = .ok (.istore 4, 2) := by decide +kernel
theorem dX4_leastPrice_47 : decode cX4_leastPrice 47 = .ok (.goto (-29), 3) := by decide +kernel
theorem dX4_leastPrice_50 : decode cX4_leastPrice 50 = .ok (.iload_n 3, 1) := by decide +kernel
theorem dX4_leastPrice_51 : decode cX4_leastPrice 51 = .ok (.ireturn, 1) := by decide +kernel
theorem dX4_priceWith_0 : decode cX4_priceWith 0 = .ok (.aload_n 0, 1) := by decide +kernel
theorem dX4_priceWith_1 : decode cX4_priceWith 1 = .ok (.getfield 10, 3) := by decide +kernel
theorem dX4_priceWith_4 : decode cX4_priceWith 4 = .ok (.getfield 106, 3) := by decide +kernel
theorem dX4_priceWith_7 : decode cX4_priceWith 7 = .ok (.iconst 4, 1) := by decide +kernel
theorem dX4_priceWith_8 : decode cX4_priceWith 8 = .ok (.aaload, 1) := by decide +kernel
theorem dX4_priceWith_9 : decode cX4_priceWith 9 = .ok (.iload_n 2, 1) := by decide +kernel
theorem dX4_priceWith_10 : decode cX4_priceWith 10 = .ok (.iaload, 1) := by decide +kernel
theorem dX4_priceWith_11 : decode cX4_priceWith 11 = .ok (.istore_n 3, 1) := by decide +kernel
theorem dX4_priceWith_12 : decode cX4_priceWith 12 = .ok (.aload_n 0, 1) := by decide +kernel
theorem dX4_priceWith_13 : decode cX4_priceWith 13 = .ok (.getfield 43, 3) := by decide +kernel
theorem dX4_priceWith_16 : decode cX4_priceWith 16 = .ok (.iload_n 1, 1) := by decide +kernel
theorem dX4_priceWith_17 : decode cX4_priceWith 17 = .ok (.iload_n 2, 1) := by decide +kernel
theorem dX4_priceWith_18 : decode cX4_priceWith 18 = .ok (.ixor, 1) := by decide +kernel
theorem dX4_priceWith_19 : decode cX4_priceWith 19 = .ok (.iaload, 1) := by decide +kernel
theorem dX4_priceWith_20 : decode cX4_priceWith 20 = .ok (.istore 4, 2) := by decide +kernel
theorem dX4_priceWith_22 : decode cX4_priceWith 22 = .ok (.iload_n 3, 1) := by decide +kernel
theorem dX4_priceWith_23 : decode cX4_priceWith 23 = .ok (.ifCond .eq 10, 3) := by decide +kernel
theorem dX4_priceWith_26 : decode cX4_priceWith 26 = .ok (.iload 4, 2) := by decide +kernel
theorem dX4_priceWith_28 : decode cX4_priceWith 28 = .ok (.ldc 189, 2) := by decide +kernel
theorem dX4_priceWith_30 : decode cX4_priceWith 30 = .ok (.if_icmp .lt 8, 3) := by decide +kernel
theorem dX4_priceWith_33 : decode cX4_priceWith 33 = .ok (.ldc 189, 2) := by decide +kernel
theorem dX4_priceWith_35 : decode cX4_priceWith 35 = .ok (.goto 7, 3) := by decide +kernel
theorem dX4_priceWith_38 : decode cX4_priceWith 38 = .ok (.iload_n 3, 1) := by decide +kernel
theorem dX4_priceWith_39 : decode cX4_priceWith 39 = .ok (.iload 4, 2) := by decide +kernel
theorem dX4_priceWith_41 : decode cX4_priceWith 41 = .ok (.iadd, 1) := by decide +kernel
theorem dX4_priceWith_42 : decode cX4_priceWith 42 = .ok (.ireturn, 1) := by decide +kernel
set_option maxRecDepth 20000 in
theorem ggX4_partOrNone_X1_hasSet : GoodIn wsX4_partOrNone wsX1_hasSet := goodIn_r _ [8, 9, 10, 11, 7, 12, 13, 45, 46, 47, 48] (by decide +kernel) (by decide +kernel)
set_option maxRecDepth 20000 in
theorem gX4_partOrNone_X1_hasSet : GoodIn wsX4_partOrNone (wsV RX4 102 RX1 yX1_hasSet wsX1_hasSet) := goodIn_app (goodIn_of _ (by decide +kernel)) ggX4_partOrNone_X1_hasSet
set_option maxRecDepth 20000 in
theorem ggX4_partOrNone_X4_priceParts : GoodIn wsX4_partOrNone wsX4_priceParts := goodIn_r _ [18, 2, 19, 20, 21, 17, 22, 23, 24, 25, 26, 27, 28, 29, 30, 1, 31, 3, 36, 37, 38, 39, 40, 41, 42, 43, 44, 45, 46, 47, 48] (by decide +kernel) (by decide +kernel)
set_option maxRecDepth 20000 in
theorem gX4_partOrNone_X4_priceParts : GoodIn wsX4_partOrNone (wsV RX4 186 RX4 yX4_priceParts wsX4_priceParts) := goodIn_app (goodIn_of _ (by decide +kernel)) ggX4_partOrNone_X4_priceParts
set_option maxRecDepth 20000 in
theorem ggX4_partOrNone_X4_firstPart : GoodIn wsX4_partOrNone wsX4_firstPart := goodIn_r _ [35, 2, 27, 28, 29, 17, 30, 1, 31, 3, 36, 37, 38, 39, 40, 41, 42, 43, 44, 45, 46, 47, 48] (by decide +kernel) (by decide +kernel)
set_option maxRecDepth 20000 in
theorem gX4_partOrNone_X4_firstPart : GoodIn wsX4_partOrNone (wsV RX4 289 RX4 yX4_firstPart wsX4_firstPart) := goodIn_app (goodIn_of _ (by decide +kernel)) ggX4_partOrNone_X4_firstPart
theorem dX4_partOrNone_0 : decode cX4_partOrNone 0 = .ok (.aload_n 0, 1) := by decide +kernel
theorem dX4_partOrNone_1 : decode cX4_partOrNone 1 = .ok (.getfield 10, 3) := by decide +kernel
theorem dX4_partOrNone_4 : decode cX4_partOrNone 4 = .ok (.iload_n 1, 1) := by decide +kernel
theorem dX4_partOrNone_5 : decode cX4_partOrNone 5 = .ok (.invokevirtual 102, 3) := by decide +kernel
theorem dX4_partOrNone_8 : decode cX4_partOrNone 8 = .ok (.ifCond .eq 13, 3) := by decide +kernel
theorem dX4_partOrNone_11 : decode cX4_partOrNone 11 = .ok (.iload_n 2, 1) := by decide +kernel
theorem dX4_partOrNone_12 : decode cX4_partOrNone 12 = .ok (.ifCond .lt 9, 3) := by decide +kernel
theorem dX4_partOrNone_15 : decode cX4_partOrNone 15 = .ok (.iload_n 2, 1) := by decide +kernel
theorem dX4_partOrNone_16 : decode cX4_partOrNone 16 = .ok (.bipush 8, 2) := by decide +kernel
theorem dX4_partOrNone_18 : decode cX4_partOrNone 18 = .ok (.if_icmp .lt 5, 3) := by decide +kernel
theorem dX4_partOrNone_21 : decode cX4_partOrNone 21 = .ok (.iconst (-1), 1) := by decide +kernel
theorem dX4_partOrNone_22 : decode cX4_partOrNone 22 = .ok (.ireturn, 1) := by decide +kernel
theorem dX4_partOrNone_23 : decode cX4_partOrNone 23 = .ok (.aload_n 0, 1) := by decide +kernel
theorem dX4_partOrNone_24 : decode cX4_partOrNone 24 = .ok (.iload_n 1, 1) := by decide +kernel
theorem dX4_partOrNone_25 : decode cX4_partOrNone 25 = .ok (.invokevirtual 186, 3) := by decide +kernel
theorem dX4_partOrNone_28 : decode cX4_partOrNone 28 = .ok (.aload_n 0, 1) := by decide +kernel
theorem dX4_partOrNone_29 : decode cX4_partOrNone 29 = .ok (.getfield 43, 3) := by decide +kernel
theorem dX4_partOrNone_32 : decode cX4_partOrNone 32 = .ok (.iload_n 1, 1) := by decide +kernel
theorem dX4_partOrNone_33 : decode cX4_partOrNone 33 = .ok (.iaload, 1) := by decide +kernel
theorem dX4_partOrNone_34 : decode cX4_partOrNone 34 = .ok (.ldc 189, 2) := by decide +kernel
theorem dX4_partOrNone_36 : decode cX4_partOrNone 36 = .ok (.if_icmp .lt 5, 3) := by decide +kernel
theorem dX4_partOrNone_39 : decode cX4_partOrNone 39 = .ok (.iconst (-1), 1) := by decide +kernel
theorem dX4_partOrNone_40 : decode cX4_partOrNone 40 = .ok (.ireturn, 1) := by decide +kernel
theorem dX4_partOrNone_41 : decode cX4_partOrNone 41 = .ok (.iload_n 1, 1) := by decide +kernel
theorem dX4_partOrNone_42 : decode cX4_partOrNone 42 = .ok (.istore_n 3, 1) := by decide +kernel
theorem dX4_partOrNone_43 : decode cX4_partOrNone 43 = .ok (.iconst 0, 1) := by decide +kernel
theorem dX4_partOrNone_44 : decode cX4_partOrNone 44 = .ok (.istore 4, 2) := by decide +kernel
theorem dX4_partOrNone_46 : decode cX4_partOrNone 46 = .ok (.iload 4, 2) := by decide +kernel
theorem dX4_partOrNone_48 : decode cX4_partOrNone 48 = .ok (.iload_n 2, 1) := by decide +kernel
theorem dX4_partOrNone_49 : decode cX4_partOrNone 49 = .ok (.if_icmp .ge 17, 3) := by decide +kernel
theorem dX4_partOrNone_52 : decode cX4_partOrNone 52 = .ok (.iload_n 3, 1) := by decide +kernel
theorem dX4_partOrNone_53 : decode cX4_partOrNone 53 = .ok (.aload_n 0, 1) := by decide +kernel
theorem dX4_partOrNone_54 : decode cX4_partOrNone 54 = .ok (.iload_n 3, 1) := by decide +kernel
theorem dX4_partOrNone_55 : decode cX4_partOrNone 55 = .ok (.invokevirtual 289, 3) := by decide +kernel
theorem dX4_partOrNone_58 : decode cX4_partOrNone 58 = .ok (.ixor, 1) := by decide +kernel
theorem dX4_partOrNone_59 : decode cX4_partOrNone 59 = .ok (.istore_n 3, 1) := by decide +kernel
theorem dX4_partOrNone_60 : decode cX4_partOrNone 60 = .ok (.iinc 4 1, 3) := by decide +kernel
theorem dX4_partOrNone_63 : decode cX4_partOrNone 63 = .ok (.goto (-17), 3) := by decide +kernel
theorem dX4_partOrNone_66 : decode cX4_partOrNone 66 = .ok (.iload_n 3, 1) := by decide +kernel
theorem dX4_partOrNone_67 : decode cX4_partOrNone 67 = .ok (.ifCond .ne 7, 3) := by decide +kernel
theorem dX4_partOrNone_70 : decode cX4_partOrNone 70 = .ok (.iconst (-1), 1) := by decide +kernel
theorem dX4_partOrNone_71 : decode cX4_partOrNone 71 = .ok (.goto 8, 3) := by decide +kernel
theorem dX4_partOrNone_74 : decode cX4_partOrNone 74 = .ok (.aload_n 0, 1) := by decide +kernel
theorem dX4_partOrNone_75 : decode cX4_partOrNone 75 = .ok (.iload_n 3, 1) := by decide +kernel
theorem dX4_partOrNone_76 : decode cX4_partOrNone 76 = .ok (.invokevirtual 289, 3) := by decide +kernel
theorem dX4_partOrNone_79 : decode cX4_partOrNone 79 = .ok (.ireturn, 1) := by decide +kernel
set_option maxRecDepth 20000 in
theorem ggX4_firstPart_X4_priceWith : GoodIn wsX4_firstPart wsX4_priceWith := goodIn_r _ [6, 7, 8, 1, 9, 10, 11, 12, 13, 14, 15, 16, 17, 18, 19, 20, 21, 22] (by decide +kernel) (by decide +kernel)
set_option maxRecDepth 20000 in
theorem gX4_firstPart_X4_priceWith : GoodIn wsX4_firstPart (wsV RX4 281 RX4 yX4_priceWith wsX4_priceWith) := goodIn_app (goodIn_of _ (by decide +kernel)) ggX4_firstPart_X4_priceWith
theorem dX4_firstPart_0 : decode cX4_firstPart 0 = .ok (.iload_n 1, 1) := by decide +kernel
theorem dX4_firstPart_1 : decode cX4_firstPart 1 = .ok (.iload_n 1, 1) := by decide +kernel
theorem dX4_firstPart_2 : decode cX4_firstPart 2 = .ok (.ineg, 1) := by decide +kernel
theorem dX4_firstPart_3 : decode cX4_firstPart 3 = .ok (.iand, 1) := by decide +kernel
theorem dX4_firstPart_4 : decode cX4_firstPart 4 = .ok (.istore_n 2, 1) := by decide +kernel
theorem dX4_firstPart_5 : decode cX4_firstPart 5 = .ok (.iconst 1, 1) := by decide +kernel
theorem dX4_firstPart_6 : decode cX4_firstPart 6 = .ok (.istore_n 3, 1) := by decide +kernel
theorem dX4_firstPart_7 : decode cX4_firstPart 7 = .ok (.iload_n 3, 1) := by decide +kernel
theorem dX4_firstPart_8 : decode cX4_firstPart 8 = .ok (.iload_n 1, 1) := by decide +kernel
theorem dX4_firstPart_9 : decode cX4_firstPart 9 = .ok (.if_icmp .gt 52, 3) := by decide +kernel
theorem dX4_firstPart_12 : decode cX4_firstPart 12 = .ok (.iload_n 3, 1) := by decide +kernel
theorem dX4_firstPart_13 : decode cX4_firstPart 13 = .ok (.iload_n 1, 1) := by decide +kernel
theorem dX4_firstPart_14 : decode cX4_firstPart 14 = .ok (.iconst (-1), 1) := by decide +kernel
theorem dX4_firstPart_15 : decode cX4_firstPart 15 = .ok (.ixor, 1) := by decide +kernel
theorem dX4_firstPart_16 : decode cX4_firstPart 16 = .ok (.iand, 1) := by decide +kernel
theorem dX4_firstPart_17 : decode cX4_firstPart 17 = .ok (.ifCond .ne 13, 3) := by decide +kernel
theorem dX4_firstPart_20 : decode cX4_firstPart 20 = .ok (.iload_n 3, 1) := by decide +kernel
theorem dX4_firstPart_21 : decode cX4_firstPart 21 = .ok (.iload_n 2, 1) := by decide +kernel
theorem dX4_firstPart_22 : decode cX4_firstPart 22 = .ok (.iand, 1) := by decide +kernel
theorem dX4_firstPart_23 : decode cX4_firstPart 23 = .ok (.ifCond .eq 7, 3) := by decide +kernel
theorem dX4_firstPart_26 : decode cX4_firstPart 26 = .ok (.iconst 1, 1) := by decide +kernel
theorem dX4_firstPart_27 : decode cX4_firstPart 27 = .ok (.goto 4, 3) := by decide +kernel
theorem dX4_firstPart_30 : decode cX4_firstPart 30 = .ok (.iconst 0, 1) := by decide +kernel
theorem dX4_firstPart_31 : decode cX4_firstPart 31 = .ok (.istore 4, 2) := by decide +kernel
theorem dX4_firstPart_33 : decode cX4_firstPart 33 = .ok (.iload 4, 2) := by decide +kernel
theorem dX4_firstPart_35 : decode cX4_firstPart 35 = .ok (.ifCond .eq 20, 3) := by decide +kernel
theorem dX4_firstPart_38 : decode cX4_firstPart 38 = .ok (.aload_n 0, 1) := by decide +kernel
theorem dX4_firstPart_39 : decode cX4_firstPart 39 = .ok (.iload_n 1, 1) := by decide +kernel
theorem dX4_firstPart_40 : decode cX4_firstPart 40 = .ok (.iload_n 3, 1) := by decide +kernel
theorem dX4_firstPart_41 : decode cX4_firstPart 41 = .ok (.invokevirtual 281, 3) := by decide +kernel
theorem dX4_firstPart_44 : decode cX4_firstPart 44 = .ok (.aload_n 0, 1) := by decide +kernel
theorem dX4_firstPart_45 : decode cX4_firstPart 45 = .ok (.getfield 43, 3) := by decide +kernel
theorem dX4_firstPart_48 : decode cX4_firstPart 48 = .ok (.iload_n 1, 1) := by decide +kernel
theorem dX4_firstPart_49 : decode cX4_firstPart 49 = .ok (.iaload, 1) := by decide +kernel
theorem dX4_firstPart_50 : decode cX4_firstPart 50 = .ok (.if_icmp .ne 5, 3) := by decide +kernel
theorem dX4_firstPart_53 : decode cX4_firstPart 53 = .ok (.iload_n 3, 1) := by decide +kernel
theorem dX4_firstPart_54 : decode cX4_firstPart 54 = .ok (.ireturn, 1) := by decide +kernel
theorem dX4_firstPart_55 : decode cX4_firstPart 55 = .ok (.iinc 3 1, 3) := by decide +kernel
theorem dX4_firstPart_58 : decode cX4_firstPart 58 = .ok (.goto (-51), 3) := by decide +kernel
theorem dX4_firstPart_61 : decode cX4_firstPart 61 = .ok (.iconst 0, 1) := by decide +kernel
theorem dX4_firstPart_62 : decode cX4_firstPart 62 = .ok (.ireturn, 1) := by decide +kernel
set_option maxRecDepth 20000 in
theorem ggX4_paintFewest_X4_paintFrom : GoodIn wsX4_paintFewest wsX4_paintFrom := goodIn_r _ [6, 7, 3, 4, 5, 8, 9, 10, 11, 12, 13, 23, 24, 25, 26] (by decide +kernel) (by decide +kernel)
set_option maxRecDepth 20000 in
theorem gX4_paintFewest_X4_paintFrom : GoodIn wsX4_paintFewest (va_wsS RX4 292 yX4_paintFrom wsX4_paintFrom) := goodIn_app (goodIn_of _ (by decide +kernel)) ggX4_paintFewest_X4_paintFrom
theorem dX4_paintFewest_0 : decode cX4_paintFewest 0 = .ok (.iconst 0, 1) := by decide +kernel
theorem dX4_paintFewest_1 : decode cX4_paintFewest 1 = .ok (.istore_n 2, 1) := by decide +kernel
theorem dX4_paintFewest_2 : decode cX4_paintFewest 2 = .ok (.iload_n 2, 1) := by decide +kernel
theorem dX4_paintFewest_3 : decode cX4_paintFewest 3 = .ok (.bipush 8, 2) := by decide +kernel
theorem dX4_paintFewest_5 : decode cX4_paintFewest 5 = .ok (.if_icmp .gt 49, 3) := by decide +kernel
theorem dX4_paintFewest_8 : decode cX4_paintFewest 8 = .ok (.iconst 0, 1) := by decide +kernel
theorem dX4_paintFewest_9 : decode cX4_paintFewest 9 = .ok (.istore_n 3, 1) := by decide +kernel
theorem dX4_paintFewest_10 : decode cX4_paintFewest 10 = .ok (.iload_n 3, 1) := by decide +kernel
theorem dX4_paintFewest_11 : decode cX4_paintFewest 11 = .ok (.bipush 8, 2) := by decide +kernel
theorem dX4_paintFewest_13 : decode cX4_paintFewest 13 = .ok (.if_icmp .ge 16, 3) := by decide +kernel
theorem dX4_paintFewest_16 : decode cX4_paintFewest 16 = .ok (.aload_n 0, 1) := by decide +kernel
theorem dX4_paintFewest_17 : decode cX4_paintFewest 17 = .ok (.getfield 50, 3) := by decide +kernel
theorem dX4_paintFewest_20 : decode cX4_paintFewest 20 = .ok (.iload_n 3, 1) := by decide +kernel
theorem dX4_paintFewest_21 : decode cX4_paintFewest 21 = .ok (.iconst 0, 1) := by decide +kernel
theorem dX4_paintFewest_22 : decode cX4_paintFewest 22 = .ok (.iastore, 1) := by decide +kernel
theorem dX4_paintFewest_23 : decode cX4_paintFewest 23 = .ok (.iinc 3 1, 3) := by decide +kernel
theorem dX4_paintFewest_26 : decode cX4_paintFewest 26 = .ok (.goto (-16), 3) := by decide +kernel
theorem dX4_paintFewest_29 : decode cX4_paintFewest 29 = .ok (.aload_n 0, 1) := by decide +kernel
theorem dX4_paintFewest_30 : decode cX4_paintFewest 30 = .ok (.getfield 10, 3) := by decide +kernel
theorem dX4_paintFewest_33 : decode cX4_paintFewest 33 = .ok (.aload_n 0, 1) := by decide +kernel
theorem dX4_paintFewest_34 : decode cX4_paintFewest 34 = .ok (.getfield 50, 3) := by decide +kernel
theorem dX4_paintFewest_37 : decode cX4_paintFewest 37 = .ok (.iload_n 1, 1) := by decide +kernel
theorem dX4_paintFewest_38 : decode cX4_paintFewest 38 = .ok (.iload_n 2, 1) := by decide +kernel
theorem dX4_paintFewest_39 : decode cX4_paintFewest 39 = .ok (.iconst 0, 1) := by decide +kernel
theorem dX4_paintFewest_40 : decode cX4_paintFewest 40 = .ok (.invokestatic 292, 3) := by decide +kernel
theorem dX4_paintFewest_43 : decode cX4_paintFewest 43 = .ok (.ifCond .eq 5, 3) := by decide +kernel
theorem dX4_paintFewest_46 : decode cX4_paintFewest 46 = .ok (.iload_n 2, 1) := by decide +kernel
theorem dX4_paintFewest_47 : decode cX4_paintFewest 47 = .ok (.ireturn, 1) := by decide +kernel
theorem dX4_paintFewest_48 : decode cX4_paintFewest 48 = .ok (.iinc 2 1, 3) := by decide +kernel
theorem dX4_paintFewest_51 : decode cX4_paintFewest 51 = .ok (.goto (-49), 3) := by decide +kernel
theorem dX4_paintFewest_54 : decode cX4_paintFewest 54 = .ok (.iconst (-1), 1) := by decide +kernel
theorem dX4_paintFewest_55 : decode cX4_paintFewest 55 = .ok (.ireturn, 1) := by decide +kernel
set_option maxRecDepth 20000 in
theorem ggX4_paintFrom_X4_paintFrom : GoodIn wsX4_paintFrom wsX4_paintFrom := goodIn_r _ [0, 1, 2, 3, 4, 5, 6, 7, 8, 9, 10, 11, 12, 13, 14] (by decide +kernel) (by decide +kernel)
set_option maxRecDepth 20000 in
theorem gX4_paintFrom_X4_paintFrom : GoodIn wsX4_paintFrom (va_wsS RX4 292 yX4_paintFrom wsX4_paintFrom) := goodIn_app (goodIn_of _ (by decide +kernel)) ggX4_paintFrom_X4_paintFrom
set_option maxRecDepth 20000 in
theorem ggX4_paintFrom_X1_mates : GoodIn wsX4_paintFrom wsX1_mates := goodIn_r _ [9, 10, 11, 12, 13, 14] (by decide +kernel) (by decide +kernel)
set_option maxRecDepth 20000 in
theorem gX4_paintFrom_X1_mates : GoodIn wsX4_paintFrom (wsV RX4 113 RX1 yX1_mates wsX1_mates) := goodIn_app (goodIn_of _ (by decide +kernel)) ggX4_paintFrom_X1_mates
theorem dX4_paintFrom_0 : decode cX4_paintFrom 0 = .ok (.iload 4, 2) := by decide +kernel
theorem dX4_paintFrom_2 : decode cX4_paintFrom 2 = .ok (.aload_n 0, 1) := by decide +kernel
theorem dX4_paintFrom_3 : decode cX4_paintFrom 3 = .ok (.getfield 92, 3) := by decide +kernel
theorem dX4_paintFrom_6 : decode cX4_paintFrom 6 = .ok (.if_icmp .lt 5, 3) := by decide +kernel
theorem dX4_paintFrom_9 : decode cX4_paintFrom 9 = .ok (.iconst 1, 1) := by decide +kernel
theorem dX4_paintFrom_10 : decode cX4_paintFrom 10 = .ok (.ireturn, 1) := by decide +kernel
theorem dX4_paintFrom_11 : decode cX4_paintFrom 11 = .ok (.iconst 1, 1) := by decide +kernel
theorem dX4_paintFrom_12 : decode cX4_paintFrom 12 = .ok (.iload 4, 2) := by decide +kernel
theorem dX4_paintFrom_14 : decode cX4_paintFrom 14 = .ok (.ishl, 1) := by decide +kernel
theorem dX4_paintFrom_15 : decode cX4_paintFrom 15 = .ok (.istore 5, 2) := by decide +kernel
theorem dX4_paintFrom_17 : decode cX4_paintFrom 17 = .ok (.iload_n 2, 1) := by decide +kernel
theorem dX4_paintFrom_18 : decode cX4_paintFrom 18 = .ok (.iload 5, 2) := by decide +kernel
theorem dX4_paintFrom_20 : decode cX4_paintFrom 20 = .ok (.iand, 1) := by decide +kernel
theorem dX4_paintFrom_21 : decode cX4_paintFrom 21 = .ok (.ifCond .ne 15, 3) := by decide +kernel
theorem dX4_paintFrom_24 : decode cX4_paintFrom 24 = .ok (.aload_n 0, 1) := by decide +kernel
theorem dX4_paintFrom_25 : decode cX4_paintFrom 25 = .ok (.aload_n 1, 1) := by decide +kernel
theorem dX4_paintFrom_26 : decode cX4_paintFrom 26 = .ok (.iload_n 2, 1) := by decide +kernel
theorem dX4_paintFrom_27 : decode cX4_paintFrom 27 = .ok (.iload_n 3, 1) := by decide +kernel
theorem dX4_paintFrom_28 : decode cX4_paintFrom 28 = .ok (.iload 4, 2) := by decide +kernel
theorem dX4_paintFrom_30 : decode cX4_paintFrom 30 = .ok (.iconst 1, 1) := by decide +kernel
theorem dX4_paintFrom_31 : decode cX4_paintFrom 31 = .ok (.iadd, 1) := by decide +kernel
theorem dX4_paintFrom_32 : decode cX4_paintFrom 32 = .ok (.invokestatic 292, 3) := by decide +kernel
theorem dX4_paintFrom_35 : decode cX4_paintFrom 35 = .ok (.ireturn, 1) := by decide +kernel
theorem dX4_paintFrom_36 : decode cX4_paintFrom 36 = .ok (.iconst 0, 1) := by decide +kernel
theorem dX4_paintFrom_37 : decode cX4_paintFrom 37 = .ok (.istore 6, 2) := by decide +kernel
theorem dX4_paintFrom_39 : decode cX4_paintFrom 39 = .ok (.iload 6, 2) := by decide +kernel
theorem dX4_paintFrom_41 : decode cX4_paintFrom 41 = .ok (.iload_n 3, 1) := by decide +kernel
theorem dX4_paintFrom_42 : decode cX4_paintFrom 42 = .ok (.if_icmp .ge 78, 3) := by decide +kernel
theorem dX4_paintFrom_45 : decode cX4_paintFrom 45 = .ok (.aload_n 1, 1) := by decide +kernel
theorem dX4_paintFrom_46 : decode cX4_paintFrom 46 = .ok (.iload 6, 2) := by decide +kernel
theorem dX4_paintFrom_48 : decode cX4_paintFrom 48 = .ok (.iaload, 1) := by decide +kernel
theorem dX4_paintFrom_49 : decode cX4_paintFrom 49 = .ok (.ifCond .ne 7, 3) := by decide +kernel
theorem dX4_paintFrom_52 : decode cX4_paintFrom 52 = .ok (.iconst 1, 1) := by decide +kernel
theorem dX4_paintFrom_53 : decode cX4_paintFrom 53 = .ok (.goto 4, 3) := by decide +kernel
theorem dX4_paintFrom_56 : decode cX4_paintFrom 56 = .ok (.iconst 0, 1) := by decide +kernel
theorem dX4_paintFrom_57 : decode cX4_paintFrom 57 = .ok (.istore 7, 2) := by decide +kernel
theorem dX4_paintFrom_59 : decode cX4_paintFrom 59 = .ok (.aload_n 1, 1) := by decide +kernel
theorem dX4_paintFrom_60 : decode cX4_paintFrom 60 = .ok (.iload 6, 2) := by decide +kernel
theorem dX4_paintFrom_62 : decode cX4_paintFrom 62 = .ok (.iaload, 1) := by decide +kernel
theorem dX4_paintFrom_63 : decode cX4_paintFrom 63 = .ok (.aload_n 0, 1) := by decide +kernel
theorem dX4_paintFrom_64 : decode cX4_paintFrom 64 = .ok (.iload 4, 2) := by decide +kernel
theorem dX4_paintFrom_66 : decode cX4_paintFrom 66 = .ok (.invokevirtual 113, 3) := by decide +kernel
theorem dX4_paintFrom_69 : decode cX4_paintFrom 69 = .ok (.iand, 1) := by decide +kernel
theorem dX4_paintFrom_70 : decode cX4_paintFrom 70 = .ok (.ifCond .ne 37, 3) := by decide +kernel
theorem dX4_paintFrom_73 : decode cX4_paintFrom 73 = .ok (.aload_n 1, 1) := by decide +kernel
theorem dX4_paintFrom_74 : decode cX4_paintFrom 74 = .ok (.iload 6, 2) := by decide +kernel
theorem dX4_paintFrom_76 : decode cX4_paintFrom 76 = .ok (.dup2, 1) := by decide +kernel
theorem dX4_paintFrom_77 : decode cX4_paintFrom 77 = .ok (.iaload, 1) := by decide +kernel
theorem dX4_paintFrom_78 : decode cX4_paintFrom 78 = .ok (.iload 5, 2) := by decide +kernel
theorem dX4_paintFrom_80 : decode cX4_paintFrom 80 = .ok (.ior, 1) := by decide +kernel
theorem dX4_paintFrom_81 : decode cX4_paintFrom 81 = .ok (.iastore, 1) := by decide +kernel
theorem dX4_paintFrom_82 : decode cX4_paintFrom 82 = .ok (.aload_n 0, 1) := by decide +kernel
theorem dX4_paintFrom_83 : decode cX4_paintFrom 83 = .ok (.aload_n 1, 1) := by decide +kernel
theorem dX4_paintFrom_84 : decode cX4_paintFrom 84 = .ok (.iload_n 2, 1) := by decide +kernel
theorem dX4_paintFrom_85 : decode cX4_paintFrom 85 = .ok (.iload_n 3, 1) := by decide +kernel
theorem dX4_paintFrom_86 : decode cX4_paintFrom 86 = .ok (.iload 4, 2) := by decide +kernel
theorem dX4_paintFrom_88 : decode cX4_paintFrom 88 = .ok (.iconst 1, 1) := by decide +kernel
theorem dX4_paintFrom_89 : decode cX4_paintFrom 89 = .ok (.iadd, 1) := by decide +kernel
theorem dX4_paintFrom_90 : decode cX4_paintFrom 90 = .ok (.invokestatic 292, 3) := by decide +kernel
theorem dX4_paintFrom_93 : decode cX4_paintFrom 93 = .ok (.ifCond .eq 5, 3) := by decide +kernel
theorem dX4_paintFrom_96 : decode cX4_paintFrom 96 = .ok (.iconst 1, 1) := by decide +kernel
theorem dX4_paintFrom_97 : decode cX4_paintFrom 97 = .ok (.ireturn, 1) := by decide +kernel
theorem dX4_paintFrom_98 : decode cX4_paintFrom 98 = .ok (.aload_n 1, 1) := by decide +kernel
theorem dX4_paintFrom_99 : decode cX4_paintFrom 99 = .ok (.iload 6, 2) := by decide +kernel
theorem dX4_paintFrom_101 : decode cX4_paintFrom 101 = .ok (.dup2, 1) := by decide +kernel
theorem dX4_paintFrom_102 : decode cX4_paintFrom 102 = .ok (.iaload, 1) := by decide +kernel
theorem dX4_paintFrom_103 : decode cX4_paintFrom 103 = .ok (.iload 5, 2) := by decide +kernel
theorem dX4_paintFrom_105 : decode cX4_paintFrom 105 = .ok (.ixor, 1) := by decide +kernel
theorem dX4_paintFrom_106 : decode cX4_paintFrom 106 = .ok (.iastore, 1) := by decide +kernel
theorem dX4_paintFrom_107 : decode cX4_paintFrom 107 = .ok (.iload 7, 2) := by decide +kernel
theorem dX4_paintFrom_109 : decode cX4_paintFrom 109 = .ok (.ifCond .eq 5, 3) := by decide +kernel
theorem dX4_paintFrom_112 : decode cX4_paintFrom 112 = .ok (.iconst 0, 1) := by decide +kernel
theorem dX4_paintFrom_113 : decode cX4_paintFrom 113 = .ok (.ireturn, 1) := by decide +kernel
theorem dX4_paintFrom_114 : decode cX4_paintFrom 114 = .ok (.iinc 6 1, 3) := by decide +kernel
theorem dX4_paintFrom_117 : decode cX4_paintFrom 117 = .ok (.goto (-78), 3) := by decide +kernel
theorem dX4_paintFrom_120 : decode cX4_paintFrom 120 = .ok (.iconst 0, 1) := by decide +kernel
theorem dX4_paintFrom_121 : decode cX4_paintFrom 121 = .ok (.ireturn, 1) := by decide +kernel
theorem dX4_nextSeed_0 : decode cX4_nextSeed 0 = .ok (.iload_n 0, 1) := by decide +kernel
theorem dX4_nextSeed_1 : decode cX4_nextSeed 1 = .ok (.ldc_w 296, 3) := by decide +kernel
theorem dX4_nextSeed_4 : decode cX4_nextSeed 4 = .ok (.imul, 1) := by decide +kernel
theorem dX4_nextSeed_5 : decode cX4_nextSeed 5 = .ok (.sipush 12345, 3) := by decide +kernel
theorem dX4_nextSeed_8 : decode cX4_nextSeed 8 = .ok (.iadd, 1) := by decide +kernel
theorem dX4_nextSeed_9 : decode cX4_nextSeed 9 = .ok (.ireturn, 1) := by decide +kernel
theorem dX4_draw_0 : decode cX4_draw 0 = .ok (.iload_n 1, 1) := by decide +kernel
theorem dX4_draw_1 : decode cX4_draw 1 = .ok (.ifCond .le 12, 3) := by decide +kernel
theorem dX4_draw_4 : decode cX4_draw 4 = .ok (.iload_n 0, 1) := by decide +kernel
theorem dX4_draw_5 : decode cX4_draw 5 = .ok (.bipush 8, 2) := by decide +kernel
theorem dX4_draw_7 : decode cX4_draw 7 = .ok (.iushr, 1) := by decide +kernel
theorem dX4_draw_8 : decode cX4_draw 8 = .ok (.iload_n 1, 1) := by decide +kernel
theorem dX4_draw_9 : decode cX4_draw 9 = .ok (.irem, 1) := by decide +kernel
theorem dX4_draw_10 : decode cX4_draw 10 = .ok (.goto 4, 3) := by decide +kernel
theorem dX4_draw_13 : decode cX4_draw 13 = .ok (.iconst 0, 1) := by decide +kernel
theorem dX4_draw_14 : decode cX4_draw 14 = .ok (.ireturn, 1) := by decide +kernel
set_option maxRecDepth 20000 in
theorem ggX4_doDeed_X4_nextSeed : GoodIn wsX4_doDeed wsX4_nextSeed := goodIn_r _ [7, 8] (by decide +kernel) (by decide +kernel)
set_option maxRecDepth 20000 in
theorem gX4_doDeed_X4_nextSeed : GoodIn wsX4_doDeed (va_wsS RX4 297 yX4_nextSeed wsX4_nextSeed) := goodIn_app (goodIn_of _ (by decide +kernel)) ggX4_doDeed_X4_nextSeed
set_option maxRecDepth 20000 in
theorem ggX4_doDeed_X4_draw : GoodIn wsX4_doDeed wsX4_draw := goodIn_r _ [11] (by decide +kernel) (by decide +kernel)
set_option maxRecDepth 20000 in
theorem gX4_doDeed_X4_draw : GoodIn wsX4_doDeed (va_wsS RX4 300 yX4_draw wsX4_draw) := goodIn_app (goodIn_of _ (by decide +kernel)) ggX4_doDeed_X4_draw
set_option maxRecDepth 20000 in
theorem ggX4_doDeed_X1_turnPair : GoodIn wsX4_doDeed wsX1_turnPair := goodIn_r _ [16, 17, 32, 33, 34, 35] (by decide +kernel) (by decide +kernel)
set_option maxRecDepth 20000 in
theorem gX4_doDeed_X1_turnPair : GoodIn wsX4_doDeed (wsV RX4 212 RX1 yX1_turnPair wsX1_turnPair) := goodIn_app (goodIn_of _ (by decide +kernel)) ggX4_doDeed_X1_turnPair
set_option maxRecDepth 20000 in
theorem ggX4_doDeed_X1_countSets : GoodIn wsX4_doDeed wsX1_countSets := goodIn_r _ [21, 22, 32, 33, 34, 35] (by decide +kernel) (by decide +kernel)
set_option maxRecDepth 20000 in
theorem gX4_doDeed_X1_countSets : GoodIn wsX4_doDeed (wsV RX4 132 RX1 yX1_countSets wsX1_countSets) := goodIn_app (goodIn_of _ (by decide +kernel)) ggX4_doDeed_X1_countSets
theorem dX4_doDeed_0 : decode cX4_doDeed 0 = .ok (.iload_n 1, 1) := by decide +kernel
theorem dX4_doDeed_1 : decode cX4_doDeed 1 = .ok (.invokestatic 297, 3) := by decide +kernel
theorem dX4_doDeed_4 : decode cX4_doDeed 4 = .ok (.istore_n 2, 1) := by decide +kernel
theorem dX4_doDeed_5 : decode cX4_doDeed 5 = .ok (.iload_n 2, 1) := by decide +kernel
theorem dX4_doDeed_6 : decode cX4_doDeed 6 = .ok (.iconst 3, 1) := by decide +kernel
theorem dX4_doDeed_7 : decode cX4_doDeed 7 = .ok (.invokestatic 300, 3) := by decide +kernel
theorem dX4_doDeed_10 : decode cX4_doDeed 10 = .ok (.istore_n 3, 1) := by decide +kernel
theorem dX4_doDeed_11 : decode cX4_doDeed 11 = .ok (.iload_n 2, 1) := by decide +kernel
theorem dX4_doDeed_12 : decode cX4_doDeed 12 = .ok (.invokestatic 297, 3) := by decide +kernel
theorem dX4_doDeed_15 : decode cX4_doDeed 15 = .ok (.istore_n 2, 1) := by decide +kernel
theorem dX4_doDeed_16 : decode cX4_doDeed 16 = .ok (.iload_n 3, 1) := by decide +kernel
theorem dX4_doDeed_17 : decode cX4_doDeed 17 = .ok (.ifCond .ne 54, 3) := by decide +kernel
theorem dX4_doDeed_20 : decode cX4_doDeed 20 = .ok (.iload_n 2, 1) := by decide +kernel
theorem dX4_doDeed_21 : decode cX4_doDeed 21 = .ok (.aload_n 0, 1) := by decide +kernel
theorem dX4_doDeed_22 : decode cX4_doDeed 22 = .ok (.getfield 10, 3) := by decide +kernel
theorem dX4_doDeed_25 : decode cX4_doDeed 25 = .ok (.getfield 92, 3) := by decide +kernel
theorem dX4_doDeed_28 : decode cX4_doDeed 28 = .ok (.invokestatic 300, 3) := by decide +kernel
theorem dX4_doDeed_31 : decode cX4_doDeed 31 = .ok (.istore 4, 2) := by decide +kernel
theorem dX4_doDeed_33 : decode cX4_doDeed 33 = .ok (.iload_n 2, 1) := by decide +kernel
theorem dX4_doDeed_34 : decode cX4_doDeed 34 = .ok (.invokestatic 297, 3) := by decide +kernel
theorem dX4_doDeed_37 : decode cX4_doDeed 37 = .ok (.istore_n 2, 1) := by decide +kernel
theorem dX4_doDeed_38 : decode cX4_doDeed 38 = .ok (.iload_n 2, 1) := by decide +kernel
theorem dX4_doDeed_39 : decode cX4_doDeed 39 = .ok (.aload_n 0, 1) := by decide +kernel
theorem dX4_doDeed_40 : decode cX4_doDeed 40 = .ok (.getfield 10, 3) := by decide +kernel
theorem dX4_doDeed_43 : decode cX4_doDeed 43 = .ok (.getfield 92, 3) := by decide +kernel
theorem dX4_doDeed_46 : decode cX4_doDeed 46 = .ok (.invokestatic 300, 3) := by decide +kernel
theorem dX4_doDeed_49 : decode cX4_doDeed 49 = .ok (.istore 5, 2) := by decide +kernel
theorem dX4_doDeed_51 : decode cX4_doDeed 51 = .ok (.iload 4, 2) := by decide +kernel
theorem dX4_doDeed_53 : decode cX4_doDeed 53 = .ok (.iload 5, 2) := by decide +kernel
theorem dX4_doDeed_55 : decode cX4_doDeed 55 = .ok (.if_icmp .eq 14, 3) := by decide +kernel
theorem dX4_doDeed_58 : decode cX4_doDeed 58 = .ok (.aload_n 0, 1) := by decide +kernel
theorem dX4_doDeed_59 : decode cX4_doDeed 59 = .ok (.getfield 10, 3) := by decide +kernel
theorem dX4_doDeed_62 : decode cX4_doDeed 62 = .ok (.iload 4, 2) := by decide +kernel
theorem dX4_doDeed_64 : decode cX4_doDeed 64 = .ok (.iload 5, 2) := by decide +kernel
theorem dX4_doDeed_66 : decode cX4_doDeed 66 = .ok (.invokevirtual 212, 3) := by decide +kernel
theorem dX4_doDeed_69 : decode cX4_doDeed 69 = .ok (.iload_n 2, 1) := by decide +kernel
theorem dX4_doDeed_70 : decode cX4_doDeed 70 = .ok (.ireturn, 1) := by decide +kernel
theorem dX4_doDeed_71 : decode cX4_doDeed 71 = .ok (.iload_n 2, 1) := by decide +kernel
theorem dX4_doDeed_72 : decode cX4_doDeed 72 = .ok (.aload_n 0, 1) := by decide +kernel
theorem dX4_doDeed_73 : decode cX4_doDeed 73 = .ok (.getfield 10, 3) := by decide +kernel
theorem dX4_doDeed_76 : decode cX4_doDeed 76 = .ok (.invokevirtual 132, 3) := by decide +kernel
theorem dX4_doDeed_79 : decode cX4_doDeed 79 = .ok (.invokestatic 300, 3) := by decide +kernel
theorem dX4_doDeed_82 : decode cX4_doDeed 82 = .ok (.istore 4, 2) := by decide +kernel
theorem dX4_doDeed_84 : decode cX4_doDeed 84 = .ok (.iload_n 3, 1) := by decide +kernel
