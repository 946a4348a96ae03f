theorem dX5_laysPlain_92 : decode cX5_laysPlain 92 = .ok (.dup2, 1) := by decide +kernel
theorem dX5_laysPlain_93 : decode cX5_laysPlain 93 = .ok (.iaload, 1) := by decide +kernel
theorem dX5_laysPlain_94 : decode cX5_laysPlain 94 = .ok (.aload_n 0, 1) := by decide +kernel
theorem dX5_laysPlain_95 : decode cX5_laysPlain 95 = .ok (.getfield 84, 3) := by decide +kernel
theorem dX5_laysPlain_98 : decode cX5_laysPlain 98 = .ok (.bipush 9, 2) := by decide +kernel
theorem dX5_laysPlain_100 : decode cX5_laysPlain 100 = .ok (.iload_n 1, 1) := by decide +kernel
theorem dX5_laysPlain_101 : decode cX5_laysPlain 101 = .ok (.iload_n 2, 1) := by decide +kernel
theorem dX5_laysPlain_102 : decode cX5_laysPlain 102 = .ok (.iconst (-1), 1) := by decide +kernel
theorem dX5_laysPlain_103 : decode cX5_laysPlain 103 = .ok (.ixor, 1) := by decide +kernel
theorem dX5_laysPlain_104 : decode cX5_laysPlain 104 = .ok (.iand, 1) := by decide +kernel
theorem dX5_laysPlain_105 : decode cX5_laysPlain 105 = .ok (.imul, 1) := by decide +kernel
theorem dX5_laysPlain_106 : decode cX5_laysPlain 106 = .ok (.iload_n 3, 1) := by decide +kernel
theorem dX5_laysPlain_107 : decode cX5_laysPlain 107 = .ok (.iadd, 1) := by decide +kernel
theorem dX5_laysPlain_108 : decode cX5_laysPlain 108 = .ok (.iconst 1, 1) := by decide +kernel
theorem dX5_laysPlain_109 : decode cX5_laysPlain 109 = .ok (.isub, 1) := by decide +kernel
theorem dX5_laysPlain_110 : decode cX5_laysPlain 110 = .ok (.iaload, 1) := by decide +kernel
theorem dX5_laysPlain_111 : decode cX5_laysPlain 111 = .ok (.iadd, 1) := by decide +kernel
theorem dX5_laysPlain_112 : decode cX5_laysPlain 112 = .ok (.iastore, 1) := by decide +kernel
theorem dX5_laysPlain_113 : decode cX5_laysPlain 113 = .ok (.iinc 3 1, 3) := by decide +kernel
theorem dX5_laysPlain_116 : decode cX5_laysPlain 116 = .ok (.goto (-40), 3) := by decide +kernel
theorem dX5_laysPlain_119 : decode cX5_laysPlain 119 = .ok (.iload_n 2, 1) := by decide +kernel
theorem dX5_laysPlain_120 : decode cX5_laysPlain 120 = .ok (.iconst 1, 1) := by decide +kernel
theorem dX5_laysPlain_121 : decode cX5_laysPlain 121 = .ok (.isub, 1) := by decide +kernel
theorem dX5_laysPlain_122 : decode cX5_laysPlain 122 = .ok (.iload_n 1, 1) := by decide +kernel
theorem dX5_laysPlain_123 : decode cX5_laysPlain 123 = .ok (.iand, 1) := by decide +kernel
theorem dX5_laysPlain_124 : decode cX5_laysPlain 124 = .ok (.istore_n 2, 1) := by decide +kernel
theorem dX5_laysPlain_125 : decode cX5_laysPlain 125 = .ok (.goto (-75), 3) := by decide +kernel
theorem dX5_laysPlain_128 : decode cX5_laysPlain 128 = .ok (.iinc 1 1, 3) := by decide +kernel
theorem dX5_laysPlain_131 : decode cX5_laysPlain 131 = .ok (.goto (-129), 3) := by decide +kernel
theorem dX5_laysPlain_134 : decode cX5_laysPlain 134 = .ok (.return_, 1) := by decide +kernel
set_option maxRecDepth 20000 in
theorem ggX5_fewest_X5_laysPlain : GoodIn wsX5_fewest wsX5_laysPlain := goodIn_r _ [6, 1, 7, 8, 9, 5, 10, 11, 12, 13, 14, 15, 16, 17, 18, 19, 20, 21, 22, 23, 24, 25, 26, 27, 28, 29, 30, 31, 32, 33, 34, 35, 36, 37, 38, 39, 40, 41, 42, 43, 44, 45, 46, 47, 48, 49] (by decide +kernel) (by decide +kernel)
set_option maxRecDepth 20000 in
theorem gX5_fewest_X5_laysPlain : GoodIn wsX5_fewest (wsV RX5 233 RX5 yX5_laysPlain wsX5_laysPlain) := goodIn_app (goodIn_of _ (by decide +kernel)) ggX5_fewest_X5_laysPlain
theorem dX5_fewest_0 : decode cX5_fewest 0 = .ok (.aload_n 0, 1) := by decide +kernel
theorem dX5_fewest_1 : decode cX5_fewest 1 = .ok (.invokevirtual 233, 3) := by decide +kernel
theorem dX5_fewest_4 : decode cX5_fewest 4 = .ok (.iconst 0, 1) := by decide +kernel
theorem dX5_fewest_5 : decode cX5_fewest 5 = .ok (.istore_n 2, 1) := by decide +kernel
theorem dX5_fewest_6 : decode cX5_fewest 6 = .ok (.aload_n 0, 1) := by decide +kernel
theorem dX5_fewest_7 : decode cX5_fewest 7 = .ok (.getfield 84, 3) := by decide +kernel
theorem dX5_fewest_10 : decode cX5_fewest 10 = .ok (.bipush 9, 2) := by decide +kernel
theorem dX5_fewest_12 : decode cX5_fewest 12 = .ok (.iload_n 1, 1) := by decide +kernel
theorem dX5_fewest_13 : decode cX5_fewest 13 = .ok (.imul, 1) := by decide +kernel
theorem dX5_fewest_14 : decode cX5_fewest 14 = .ok (.iload_n 2, 1) := by decide +kernel
theorem dX5_fewest_15 : decode cX5_fewest 15 = .ok (.iadd, 1) := by decide +kernel
theorem dX5_fewest_16 : decode cX5_fewest 16 = .ok (.iaload, 1) := by decide +kernel
theorem dX5_fewest_17 : decode cX5_fewest 17 = .ok (.ifCond .ne 9, 3) := by decide +kernel
theorem dX5_fewest_20 : decode cX5_fewest 20 = .ok (.iinc 2 1, 3) := by decide +kernel
theorem dX5_fewest_23 : decode cX5_fewest 23 = .ok (.goto (-17), 3) := by decide +kernel
theorem dX5_fewest_26 : decode cX5_fewest 26 = .ok (.iload_n 2, 1) := by decide +kernel
theorem dX5_fewest_27 : decode cX5_fewest 27 = .ok (.ireturn, 1) := by decide +kernel
set_option maxRecDepth 20000 in
theorem ggX5_colours_X5_isSet : GoodIn wsX5_colours wsX5_isSet := goodIn_r _ [6, 7, 8, 9, 5, 10, 11, 12, 13, 14, 15, 16, 17, 18, 38, 39, 40, 41, 42, 43, 44, 45, 46, 47, 48, 49, 50, 51, 52, 53, 54, 55, 56, 57, 58, 59, 60, 61] (by decide +kernel) (by decide +kernel)
set_option maxRecDepth 20000 in
theorem gX5_colours_X5_isSet : GoodIn wsX5_colours (wsV RX5 160 RX5 yX5_isSet wsX5_isSet) := goodIn_app (goodIn_of _ (by decide +kernel)) ggX5_colours_X5_isSet
set_option maxRecDepth 20000 in
theorem ggX5_colours_X5_fewest : GoodIn wsX5_colours wsX5_fewest := goodIn_r _ [22, 23, 24, 25, 26, 5, 27, 12, 13, 14, 15, 7, 8, 9, 10, 11, 28, 29, 30, 31, 32, 33, 34, 35, 36, 37, 38, 39, 40, 41, 42, 43, 44, 45, 46, 47, 48, 49, 50, 51, 52, 53, 54, 55, 56, 57, 58, 59, 60, 61] (by decide +kernel) (by decide +kernel)
set_option maxRecDepth 20000 in
theorem gX5_colours_X5_fewest : GoodIn wsX5_colours (wsV RX5 236 RX5 yX5_fewest wsX5_fewest) := goodIn_app (goodIn_of _ (by decide +kernel)) ggX5_colours_X5_fewest
theorem dX5_colours_0 : decode cX5_colours 0 = .ok (.aload_n 0, 1) := by decide +kernel
theorem dX5_colours_1 : decode cX5_colours 1 = .ok (.iconst 0, 1) := by decide +kernel
theorem dX5_colours_2 : decode cX5_colours 2 = .ok (.putfield 1, 3) := by decide +kernel
theorem dX5_colours_5 : decode cX5_colours 5 = .ok (.aload_n 0, 1) := by decide +kernel
theorem dX5_colours_6 : decode cX5_colours 6 = .ok (.iload_n 1, 1) := by decide +kernel
theorem dX5_colours_7 : decode cX5_colours 7 = .ok (.invokevirtual 160, 3) := by decide +kernel
theorem dX5_colours_10 : decode cX5_colours 10 = .ok (.ifCond .eq 11, 3) := by decide +kernel
theorem dX5_colours_13 : decode cX5_colours 13 = .ok (.aload_n 0, 1) := by decide +kernel
theorem dX5_colours_14 : decode cX5_colours 14 = .ok (.iload_n 1, 1) := by decide +kernel
theorem dX5_colours_15 : decode cX5_colours 15 = .ok (.invokevirtual 236, 3) := by decide +kernel
theorem dX5_colours_18 : decode cX5_colours 18 = .ok (.goto 4, 3) := by decide +kernel
theorem dX5_colours_21 : decode cX5_colours 21 = .ok (.iconst (-1), 1) := by decide +kernel
theorem dX5_colours_22 : decode cX5_colours 22 = .ok (.ireturn, 1) := by decide +kernel
set_option maxRecDepth 20000 in
theorem ggX5_paints_X5_things : GoodIn wsX5_paints wsX5_things := goodIn_r _ [7, 1, 14, 15, 16, 17, 18, 19, 20, 21, 22, 23, 24, 25, 26, 27, 28, 29, 30, 31, 32, 33, 34, 35, 36, 37] (by decide +kernel) (by decide +kernel)
set_option maxRecDepth 20000 in
theorem gX5_paints_X5_things : GoodIn wsX5_paints (wsV RX5 148 RX5 yX5_things wsX5_things) := goodIn_app (goodIn_of _ (by decide +kernel)) ggX5_paints_X5_things
set_option maxRecDepth 20000 in
theorem ggX5_paints_X5_has : GoodIn wsX5_paints wsX5_has := goodIn_r _ [10] (by decide +kernel) (by decide +kernel)
set_option maxRecDepth 20000 in
theorem gX5_paints_X5_has : GoodIn wsX5_paints (va_wsS RX5 103 yX5_has wsX5_has) := goodIn_app (goodIn_of _ (by decide +kernel)) ggX5_paints_X5_has
set_option maxRecDepth 20000 in
theorem ggX5_paints_X5_paints : GoodIn wsX5_paints wsX5_paints := goodIn_r _ [0, 1, 2, 3, 4, 5, 6, 7, 8, 9, 10, 11, 12, 13, 14, 15, 16, 17, 18, 19, 20, 21, 22, 23, 24, 25, 26, 27, 28, 29, 30, 31, 32, 33, 34, 35, 36, 37] (by decide +kernel) (by decide +kernel)
set_option maxRecDepth 20000 in
theorem gX5_paints_X5_paints : GoodIn wsX5_paints (wsV RX5 239 RX5 yX5_paints wsX5_paints) := goodIn_app (goodIn_of _ (by decide +kernel)) ggX5_paints_X5_paints
theorem dX5_paints_0 : decode cX5_paints 0 = .ok (.iload_n 2, 1) := by decide +kernel
theorem dX5_paints_1 : decode cX5_paints 1 = .ok (.aload_n 0, 1) := by decide +kernel
theorem dX5_paints_2 : decode cX5_paints 2 = .ok (.invokevirtual 148, 3) := by decide +kernel
theorem dX5_paints_5 : decode cX5_paints 5 = .ok (.if_icmp .ne 5, 3) := by decide +kernel
theorem dX5_paints_8 : decode cX5_paints 8 = .ok (.iconst 1, 1) := by decide +kernel
theorem dX5_paints_9 : decode cX5_paints 9 = .ok (.ireturn, 1) := by decide +kernel
theorem dX5_paints_10 : decode cX5_paints 10 = .ok (.iload_n 1, 1) := by decide +kernel
theorem dX5_paints_11 : decode cX5_paints 11 = .ok (.iload_n 2, 1) := by decide +kernel
theorem dX5_paints_12 : decode cX5_paints 12 = .ok (.invokestatic 103, 3) := by decide +kernel
theorem dX5_paints_15 : decode cX5_paints 15 = .ok (.ifCond .ne 13, 3) := by decide +kernel
theorem dX5_paints_18 : decode cX5_paints 18 = .ok (.aload_n 0, 1) := by decide +kernel
theorem dX5_paints_19 : decode cX5_paints 19 = .ok (.iload_n 1, 1) := by decide +kernel
theorem dX5_paints_20 : decode cX5_paints 20 = .ok (.iload_n 2, 1) := by decide +kernel
theorem dX5_paints_21 : decode cX5_paints 21 = .ok (.iconst 1, 1) := by decide +kernel
theorem dX5_paints_22 : decode cX5_paints 22 = .ok (.iadd, 1) := by decide +kernel
theorem dX5_paints_23 : decode cX5_paints 23 = .ok (.iload_n 3, 1) := by decide +kernel
theorem dX5_paints_24 : decode cX5_paints 24 = .ok (.invokevirtual 239, 3) := by decide +kernel
theorem dX5_paints_27 : decode cX5_paints 27 = .ok (.ireturn, 1) := by decide +kernel
theorem dX5_paints_28 : decode cX5_paints 28 = .ok (.iconst 0, 1) := by decide +kernel
theorem dX5_paints_29 : decode cX5_paints 29 = .ok (.istore 4, 2) := by decide +kernel
theorem dX5_paints_31 : decode cX5_paints 31 = .ok (.iload 4, 2) := by decide +kernel
theorem dX5_paints_33 : decode cX5_paints 33 = .ok (.iload_n 3, 1) := by decide +kernel
theorem dX5_paints_34 : decode cX5_paints 34 = .ok (.if_icmp .ge 89, 3) := by decide +kernel
theorem dX5_paints_37 : decode cX5_paints 37 = .ok (.iconst 1, 1) := by decide +kernel
theorem dX5_paints_38 : decode cX5_paints 38 = .ok (.istore 5, 2) := by decide +kernel
theorem dX5_paints_40 : decode cX5_paints 40 = .ok (.iconst 0, 1) := by decide +kernel
theorem dX5_paints_41 : decode cX5_paints 41 = .ok (.istore 6, 2) := by decide +kernel
theorem dX5_paints_43 : decode cX5_paints 43 = .ok (.iload 6, 2) := by decide +kernel
theorem dX5_paints_45 : decode cX5_paints 45 = .ok (.iload_n 2, 1) := by decide +kernel
theorem dX5_paints_46 : decode cX5_paints 46 = .ok (.if_icmp .ge 44, 3) := by decide +kernel
theorem dX5_paints_49 : decode cX5_paints 49 = .ok (.iload_n 1, 1) := by decide +kernel
theorem dX5_paints_50 : decode cX5_paints 50 = .ok (.aload_n 0, 1) := by decide +kernel
theorem dX5_paints_51 : decode cX5_paints 51 = .ok (.getfield 56, 3) := by decide +kernel
theorem dX5_paints_54 : decode cX5_paints 54 = .ok (.sipush 257, 3) := by decide +kernel
theorem dX5_paints_57 : decode cX5_paints 57 = .ok (.iload_n 2, 1) := by decide +kernel
theorem dX5_paints_58 : decode cX5_paints 58 = .ok (.iadd, 1) := by decide +kernel
theorem dX5_paints_59 : decode cX5_paints 59 = .ok (.iaload, 1) := by decide +kernel
theorem dX5_paints_60 : decode cX5_paints 60 = .ok (.iand, 1) := by decide +kernel
theorem dX5_paints_61 : decode cX5_paints 61 = .ok (.iload 6, 2) := by decide +kernel
theorem dX5_paints_63 : decode cX5_paints 63 = .ok (.invokestatic 103, 3) := by decide +kernel
theorem dX5_paints_66 : decode cX5_paints 66 = .ok (.ifCond .eq 18, 3) := by decide +kernel
theorem dX5_paints_69 : decode cX5_paints 69 = .ok (.aload_n 0, 1) := by decide +kernel
theorem dX5_paints_70 : decode cX5_paints 70 = .ok (.getfield 87, 3) := by decide +kernel
theorem dX5_paints_73 : decode cX5_paints 73 = .ok (.iload 6, 2) := by decide +kernel
theorem dX5_paints_75 : decode cX5_paints 75 = .ok (.iaload, 1) := by decide +kernel
theorem dX5_paints_76 : decode cX5_paints 76 = .ok (.iload 4, 2) := by decide +kernel
theorem dX5_paints_78 : decode cX5_paints 78 = .ok (.if_icmp .ne 6, 3) := by decide +kernel
theorem dX5_paints_81 : decode cX5_paints 81 = .ok (.iconst 0, 1) := by decide +kernel
theorem dX5_paints_82 : decode cX5_paints 82 = .ok (.istore 5, 2) := by decide +kernel
theorem dX5_paints_84 : decode cX5_paints 84 = .ok (.iinc 6 1, 3) := by decide +kernel
theorem dX5_paints_87 : decode cX5_paints 87 = .ok (.goto (-44), 3) := by decide +kernel
theorem dX5_paints_90 : decode cX5_paints 90 = .ok (.aload_n 0, 1) := by decide +kernel
theorem dX5_paints_91 : decode cX5_paints 91 = .ok (.getfield 87, 3) := by decide +kernel
theorem dX5_paints_94 : decode cX5_paints 94 = .ok (.iload_n 2, 1) := by decide +kernel
theorem dX5_paints_95 : decode cX5_paints 95 = .ok (.iload 4, 2) := by decide +kernel
theorem dX5_paints_97 : decode cX5_paints 97 = .ok (.iastore, 1) := by decide +kernel
theorem dX5_paints_98 : decode cX5_paints 98 = .ok (.iload 5, 2) := by decide +kernel
theorem dX5_paints_100 : decode cX5_paints 100 = .ok (.ifCond .eq 17, 3) := by decide +kernel
theorem dX5_paints_103 : decode cX5_paints 103 = .ok (.aload_n 0, 1) := by decide +kernel
theorem dX5_paints_104 : decode cX5_paints 104 = .ok (.iload_n 1, 1) := by decide +kernel
theorem dX5_paints_105 : decode cX5_paints 105 = .ok (.iload_n 2, 1) := by decide +kernel
theorem dX5_paints_106 : decode cX5_paints 106 = .ok (.iconst 1, 1) := by decide +kernel
theorem dX5_paints_107 : decode cX5_paints 107 = .ok (.iadd, 1) := by decide +kernel
theorem dX5_paints_108 : decode cX5_paints 108 = .ok (.iload_n 3, 1) := by decide +kernel
theorem dX5_paints_109 : decode cX5_paints 109 = .ok (.invokevirtual 239, 3) := by decide +kernel
theorem dX5_paints_112 : decode cX5_paints 112 = .ok (.ifCond .eq 5, 3) := by decide +kernel
theorem dX5_paints_115 : decode cX5_paints 115 = .ok (.iconst 1, 1) := by decide +kernel
theorem dX5_paints_116 : decode cX5_paints 116 = .ok (.ireturn, 1) := by decide +kernel
theorem dX5_paints_117 : decode cX5_paints 117 = .ok (.iinc 4 1, 3) := by decide +kernel
theorem dX5_paints_120 : decode cX5_paints 120 = .ok (.goto (-89), 3) := by decide +kernel
theorem dX5_paints_123 : decode cX5_paints 123 = .ok (.iconst 0, 1) := by decide +kernel
theorem dX5_paints_124 : decode cX5_paints 124 = .ok (.ireturn, 1) := by decide +kernel
set_option maxRecDepth 20000 in
theorem ggX5_colour_X5_isSet : GoodIn wsX5_colour wsX5_isSet := goodIn_r _ [7, 8, 9, 10, 6, 11, 12, 13, 14, 15, 16, 17, 18, 19, 47, 48, 49, 50, 51, 52, 53, 54, 55, 56, 57, 58, 59, 60, 61, 62, 63, 64, 65, 66, 67, 68, 69, 70] (by decide +kernel) (by decide +kernel)
set_option maxRecDepth 20000 in
theorem gX5_colour_X5_isSet : GoodIn wsX5_colour (wsV RX5 160 RX5 yX5_isSet wsX5_isSet) := goodIn_app (goodIn_of _ (by decide +kernel)) ggX5_colour_X5_isSet
set_option maxRecDepth 20000 in
theorem ggX5_colour_X5_isThing : GoodIn wsX5_colour wsX5_isThing := goodIn_r _ [23, 8, 9, 10, 6, 11, 12, 17, 18, 19, 47, 48, 49, 50, 51, 52, 53, 54, 55, 56, 57, 58, 59, 60, 61, 62, 63, 64, 65, 66, 67, 68, 69, 70] (by decide +kernel) (by decide +kernel)
set_option maxRecDepth 20000 in
theorem gX5_colour_X5_isThing : GoodIn wsX5_colour (wsV RX5 163 RX5 yX5_isThing wsX5_isThing) := goodIn_app (goodIn_of _ (by decide +kernel)) ggX5_colour_X5_isThing
set_option maxRecDepth 20000 in
theorem ggX5_colour_X5_has : GoodIn wsX5_colour wsX5_has := goodIn_r _ [26] (by decide +kernel) (by decide +kernel)
set_option maxRecDepth 20000 in
theorem gX5_colour_X5_has : GoodIn wsX5_colour (va_wsS RX5 103 yX5_has wsX5_has) := goodIn_app (goodIn_of _ (by decide +kernel)) ggX5_colour_X5_has
set_option maxRecDepth 20000 in
theorem ggX5_colour_X5_fewest : GoodIn wsX5_colour wsX5_fewest := goodIn_r _ [30, 31, 32, 33, 34, 6, 35, 13, 14, 15, 16, 8, 9, 10, 11, 12, 36, 37, 38, 39, 24, 25, 26, 40, 41, 42, 47, 48, 49, 50, 51, 52, 53, 54, 55, 56, 57, 58, 59, 60, 61, 62, 63, 64, 65, 66, 67, 68, 69, 70] (by decide +kernel) (by decide +kernel)
set_option maxRecDepth 20000 in
theorem gX5_colour_X5_fewest : GoodIn wsX5_colour (wsV RX5 236 RX5 yX5_fewest wsX5_fewest) := goodIn_app (goodIn_of _ (by decide +kernel)) ggX5_colour_X5_fewest
set_option maxRecDepth 20000 in
theorem ggX5_colour_X5_paints : GoodIn wsX5_colour wsX5_paints := goodIn_r _ [46, 12, 2, 8, 9, 10, 6, 11, 24, 25, 26, 43, 44, 45, 47, 48, 49, 50, 51, 52, 53, 54, 55, 56, 57, 58, 59, 60, 61, 62, 63, 64, 65, 66, 67, 68, 69, 70] (by decide +kernel) (by decide +kernel)
set_option maxRecDepth 20000 in
theorem gX5_colour_X5_paints : GoodIn wsX5_colour (wsV RX5 239 RX5 yX5_paints wsX5_paints) := goodIn_app (goodIn_of _ (by decide +kernel)) ggX5_colour_X5_paints
theorem dX5_colour_0 : decode cX5_colour 0 = .ok (.aload_n 0, 1) := by decide +kernel
theorem dX5_colour_1 : decode cX5_colour 1 = .ok (.iconst 0, 1) := by decide +kernel
theorem dX5_colour_2 : decode cX5_colour 2 = .ok (.putfield 1, 3) := by decide +kernel
theorem dX5_colour_5 : decode cX5_colour 5 = .ok (.aload_n 0, 1) := by decide +kernel
theorem dX5_colour_6 : decode cX5_colour 6 = .ok (.iload_n 1, 1) := by decide +kernel
theorem dX5_colour_7 : decode cX5_colour 7 = .ok (.invokevirtual 160, 3) := by decide +kernel
theorem dX5_colour_10 : decode cX5_colour 10 = .ok (.ifCond .eq 19, 3) := by decide +kernel
theorem dX5_colour_13 : decode cX5_colour 13 = .ok (.aload_n 0, 1) := by decide +kernel
theorem dX5_colour_14 : decode cX5_colour 14 = .ok (.iload_n 2, 1) := by decide +kernel
theorem dX5_colour_15 : decode cX5_colour 15 = .ok (.invokevirtual 163, 3) := by decide +kernel
theorem dX5_colour_18 : decode cX5_colour 18 = .ok (.ifCond .eq 11, 3) := by decide +kernel
theorem dX5_colour_21 : decode cX5_colour 21 = .ok (.iload_n 1, 1) := by decide +kernel
theorem dX5_colour_22 : decode cX5_colour 22 = .ok (.iload_n 2, 1) := by decide +kernel
theorem dX5_colour_23 : decode cX5_colour 23 = .ok (.invokestatic 103, 3) := by decide +kernel
theorem dX5_colour_26 : decode cX5_colour 26 = .ok (.ifCond .ne 5, 3) := by decide +kernel
theorem dX5_colour_29 : decode cX5_colour 29 = .ok (.iconst (-1), 1) := by decide +kernel
theorem dX5_colour_30 : decode cX5_colour 30 = .ok (.ireturn, 1) := by decide +kernel
theorem dX5_colour_31 : decode cX5_colour 31 = .ok (.aload_n 0, 1) := by decide +kernel
theorem dX5_colour_32 : decode cX5_colour 32 = .ok (.iload_n 1, 1) := by decide +kernel
theorem dX5_colour_33 : decode cX5_colour 33 = .ok (.iconst 0, 1) := by decide +kernel
theorem dX5_colour_34 : decode cX5_colour 34 = .ok (.aload_n 0, 1) := by decide +kernel
theorem dX5_colour_35 : decode cX5_colour 35 = .ok (.iload_n 1, 1) := by decide +kernel
theorem dX5_colour_36 : decode cX5_colour 36 = .ok (.invokevirtual 236, 3) := by decide +kernel
theorem dX5_colour_39 : decode cX5_colour 39 = .ok (.invokevirtual 239, 3) := by decide +kernel
theorem dX5_colour_42 : decode cX5_colour 42 = .ok (.pop, 1) := by decide +kernel
theorem dX5_colour_43 : decode cX5_colour 43 = .ok (.aload_n 0, 1) := by decide +kernel
theorem dX5_colour_44 : decode cX5_colour 44 = .ok (.getfield 87, 3) := by decide +kernel
theorem dX5_colour_47 : decode cX5_colour 47 = .ok (.iload_n 2, 1) := by decide +kernel
theorem dX5_colour_48 : decode cX5_colour 48 = .ok (.iaload, 1) := by decide +kernel
theorem dX5_colour_49 : decode cX5_colour 49 = .ok (.ireturn, 1) := by decide +kernel
set_option maxRecDepth 20000 in
theorem ggX5_colourings_X5_isSet : GoodIn wsX5_colourings wsX5_isSet := goodIn_r _ [8, 9, 10, 11, 7, 12, 13, 14, 15, 16, 17, 18, 19, 20, 35, 36, 37, 38, 39, 40, 41, 42, 43, 44, 45, 46, 47, 48, 49, 50, 51, 52, 53, 54, 55, 56, 57, 58] (by decide +kernel) (by decide +kernel)
set_option maxRecDepth 20000 in
theorem gX5_colourings_X5_isSet : GoodIn wsX5_colourings (wsV RX5 160 RX5 yX5_isSet wsX5_isSet) := goodIn_app (goodIn_of _ (by decide +kernel)) ggX5_colourings_X5_isSet
set_option maxRecDepth 20000 in
theorem ggX5_colourings_X5_isIn : GoodIn wsX5_colourings wsX5_isIn := goodIn_r _ [20] (by decide +kernel) (by decide +kernel)
set_option maxRecDepth 20000 in
theorem gX5_colourings_X5_isIn : GoodIn wsX5_colourings (va_wsS RX5 99 yX5_isIn wsX5_isIn) := goodIn_app (goodIn_of _ (by decide +kernel)) ggX5_colourings_X5_isIn
set_option maxRecDepth 20000 in
theorem ggX5_colourings_X5_laysPlain : GoodIn wsX5_colourings wsX5_laysPlain := goodIn_r _ [24, 3, 14, 15, 16, 7, 17, 9, 10, 11, 12, 13, 25, 26, 27, 28, 29, 30, 31, 32, 33, 34, 35, 36, 37, 38, 39, 40, 41, 42, 43, 44, 45, 46, 47, 48, 49, 50, 51, 52, 53, 54, 55, 56, 57, 58] (by decide +kernel) (by decide +kernel)
set_option maxRecDepth 20000 in
theorem gX5_colourings_X5_laysPlain : GoodIn wsX5_colourings (wsV RX5 233 RX5 yX5_laysPlain wsX5_laysPlain) := goodIn_app (goodIn_of _ (by decide +kernel)) ggX5_colourings_X5_laysPlain
theorem dX5_colourings_0 : decode cX5_colourings 0 = .ok (.aload_n 0, 1) := by decide +kernel
theorem dX5_colourings_1 : decode cX5_colourings 1 = .ok (.iconst 0, 1) := by decide +kernel
theorem dX5_colourings_2 : decode cX5_colourings 2 = .ok (.putfield 1, 3) := by decide +kernel
theorem dX5_colourings_5 : decode cX5_colourings 5 = .ok (.aload_n 0, 1) := by decide +kernel
theorem dX5_colourings_6 : decode cX5_colourings 6 = .ok (.iload_n 1, 1) := by decide +kernel
theorem dX5_colourings_7 : decode cX5_colourings 7 = .ok (.invokevirtual 160, 3) := by decide +kernel
theorem dX5_colourings_10 : decode cX5_colourings 10 = .ok (.ifCond .eq 13, 3) := by decide +kernel
theorem dX5_colourings_13 : decode cX5_colourings 13 = .ok (.iload_n 2, 1) := by decide +kernel
theorem dX5_colourings_14 : decode cX5_colourings 14 = .ok (.iconst 0, 1) := by decide +kernel
theorem dX5_colourings_15 : decode cX5_colourings 15 = .ok (.bipush 99, 2) := by decide +kernel
theorem dX5_colourings_17 : decode cX5_colourings 17 = .ok (.invokestatic 99, 3) := by decide +kernel
theorem dX5_colourings_20 : decode cX5_colourings 20 = .ok (.ifCond .ne 7, 3) := by decide +kernel
theorem dX5_colourings_23 : decode cX5_colourings 23 = .ok (.ldc2_w 242, 3) := by decide +kernel
theorem dX5_colourings_26 : decode cX5_colourings 26 = .ok (.lreturn, 1) := by decide +kernel
theorem dX5_colourings_27 : decode cX5_colourings 27 = .ok (.aload_n 0, 1) := by decide +kernel
theorem dX5_colourings_28 : decode cX5_colourings 28 = .ok (.invokevirtual 233, 3) := by decide +kernel
theorem dX5_colourings_31 : decode cX5_colourings 31 = .ok (.lconst 0, 1) := by decide +kernel
theorem dX5_colourings_32 : decode cX5_colourings 32 = .ok (.lstore_n 3, 1) := by decide +kernel
theorem dX5_colourings_33 : decode cX5_colourings 33 = .ok (.lconst 1, 1) := by decide +kernel
theorem dX5_colourings_34 : decode cX5_colourings 34 = .ok (.lstore 5, 2) := by decide +kernel
theorem dX5_colourings_36 : decode cX5_colourings 36 = .ok (.iconst 0, 1) := by decide +kernel
theorem dX5_colourings_37 : decode cX5_colourings 37 = .ok (.istore 7, 2) := by decide +kernel
theorem dX5_colourings_39 : decode cX5_colourings 39 = .ok (.iload 7, 2) := by decide +kernel
theorem dX5_colourings_41 : decode cX5_colourings 41 = .ok (.bipush 8, 2) := by decide +kernel
theorem dX5_colourings_43 : decode cX5_colourings 43 = .ok (.if_icmp .gt 48, 3) := by decide +kernel
theorem dX5_colourings_46 : decode cX5_colourings 46 = .ok (.lload_n 3, 1) := by decide +kernel
theorem dX5_colourings_47 : decode cX5_colourings 47 = .ok (.aload_n 0, 1) := by decide +kernel
theorem dX5_colourings_48 : decode cX5_colourings 48 = .ok (.getfield 84, 3) := by decide +kernel
theorem dX5_colourings_51 : decode cX5_colourings 51 = .ok (.bipush 9, 2) := by decide +kernel
theorem dX5_colourings_53 : decode cX5_colourings 53 = .ok (.iload_n 1, 1) := by decide +kernel
theorem dX5_colourings_54 : decode cX5_colourings 54 = .ok (.imul, 1) := by decide +kernel
theorem dX5_colourings_55 : decode cX5_colourings 55 = .ok (.iload 7, 2) := by decide +kernel
theorem dX5_colourings_57 : decode cX5_colourings 57 = .ok (.iadd, 1) := by decide +kernel
theorem dX5_colourings_58 : decode cX5_colourings 58 = .ok (.iaload, 1) := by decide +kernel
theorem dX5_colourings_59 : decode cX5_colourings 59 = .ok (.i2l, 1) := by decide +kernel
theorem dX5_colourings_60 : decode cX5_colourings 60 = .ok (.lload 5, 2) := by decide +kernel
theorem dX5_colourings_62 : decode cX5_colourings 62 = .ok (.lmul, 1) := by decide +kernel
theorem dX5_colourings_63 : decode cX5_colourings 63 = .ok (.ladd, 1) := by decide +kernel
theorem dX5_colourings_64 : decode cX5_colourings 64 = .ok (.lstore_n 3, 1) := by decide +kernel
theorem dX5_colourings_65 : decode cX5_colourings 65 = .ok (.lload 5, 2) := by decide +kernel
theorem dX5_colourings_67 : decode cX5_colourings 67 = .ok (.iload_n 2, 1) := by decide +kernel
theorem dX5_colourings_68 : decode cX5_colourings 68 = .ok (.iload 7, 2) := by decide +kernel
theorem dX5_colourings_70 : decode cX5_colourings 70 = .ok (.if_icmp .le 11, 3) := by decide +kernel
theorem dX5_colourings_73 : decode cX5_colourings 73 = .ok (.iload_n 2, 1) := by decide +kernel
theorem dX5_colourings_74 : decode cX5_colourings 74 = .ok (.iload 7, 2) := by decide +kernel
theorem dX5_colourings_76 : decode cX5_colourings 76 = .ok (.isub, 1) := by decide +kernel
theorem dX5_colourings_77 : decode cX5_colourings 77 = .ok (.i2l, 1) := by decide +kernel
theorem dX5_colourings_78 : decode cX5_colourings 78 = .ok (.goto 4, 3) := by decide +kernel
theorem dX5_colourings_81 : decode cX5_colourings 81 = .ok (.lconst 0, 1) := by decide +kernel
theorem dX5_colourings_82 : decode cX5_colourings 82 = .ok (.lmul, 1) := by decide +kernel
theorem dX5_colourings_83 : decode cX5_colourings 83 = .ok (.lstore 5, 2) := by decide +kernel
theorem dX5_colourings_85 : decode cX5_colourings 85 = .ok (.iinc 7 1, 3) := by decide +kernel
theorem dX5_colourings_88 : decode cX5_colourings 88 = .ok (.goto (-49), 3) := by decide +kernel
theorem dX5_colourings_91 : decode cX5_colourings 91 = .ok (.lload_n 3, 1) := by decide +kernel
theorem dX5_colourings_92 : decode cX5_colourings 92 = .ok (.lreturn, 1) := by decide +kernel
set_option maxRecDepth 20000 in
theorem ggX5_hangs_X5_isSet : GoodIn wsX5_hangs wsX5_isSet := goodIn_r _ [7, 8, 9, 10, 6, 11, 12, 13, 14, 15, 16, 17, 18, 19, 30, 31, 32, 33, 34, 35, 36, 37, 38, 39, 40, 41, 42, 43, 44, 45, 46, 47, 48, 49, 50, 51, 52, 53] (by decide +kernel) (by decide +kernel)
set_option maxRecDepth 20000 in
theorem gX5_hangs_X5_isSet : GoodIn wsX5_hangs (wsV RX5 160 RX5 yX5_isSet wsX5_isSet) := goodIn_app (goodIn_of _ (by decide +kernel)) ggX5_hangs_X5_isSet
set_option maxRecDepth 20000 in
theorem ggX5_hangs_X5_pairsIn : GoodIn wsX5_hangs wsX5_pairsIn := goodIn_r _ [23, 12, 8, 9, 10, 6, 11, 24, 25, 26, 27, 28, 29, 30, 31, 32, 33, 34, 35, 36, 37, 38, 39, 40, 41, 42, 43, 44, 45, 46, 47, 48, 49, 50, 51, 52, 53] (by decide +kernel) (by decide +kernel)
set_option maxRecDepth 20000 in
theorem gX5_hangs_X5_pairsIn : GoodIn wsX5_hangs (wsV RX5 157 RX5 yX5_pairsIn wsX5_pairsIn) := goodIn_app (goodIn_of _ (by decide +kernel)) ggX5_hangs_X5_pairsIn
theorem dX5_hangs_0 : decode cX5_hangs 0 = .ok (.aload_n 0, 1) := by decide +kernel
theorem dX5_hangs_1 : decode cX5_hangs 1 = .ok (.iconst 0, 1) := by decide +kernel
theorem dX5_hangs_2 : decode cX5_hangs 2 = .ok (.putfield 1, 3) := by decide +kernel
theorem dX5_hangs_5 : decode cX5_hangs 5 = .ok (.aload_n 0, 1) := by decide +kernel
theorem dX5_hangs_6 : decode cX5_hangs 6 = .ok (.iload_n 1, 1) := by decide +kernel
theorem dX5_hangs_7 : decode cX5_hangs 7 = .ok (.invokevirtual 160, 3) := by decide +kernel
theorem dX5_hangs_10 : decode cX5_hangs 10 = .ok (.ifCond .ne 5, 3) := by decide +kernel
theorem dX5_hangs_13 : decode cX5_hangs 13 = .ok (.iconst (-1), 1) := by decide +kernel
theorem dX5_hangs_14 : decode cX5_hangs 14 = .ok (.ireturn, 1) := by decide +kernel
theorem dX5_hangs_15 : decode cX5_hangs 15 = .ok (.aload_n 0, 1) := by decide +kernel
theorem dX5_hangs_16 : decode cX5_hangs 16 = .ok (.getfield 90, 3) := by decide +kernel
theorem dX5_hangs_19 : decode cX5_hangs 19 = .ok (.iconst 0, 1) := by decide +kernel
theorem dX5_hangs_20 : decode cX5_hangs 20 = .ok (.iconst 0, 1) := by decide +kernel
theorem dX5_hangs_21 : decode cX5_hangs 21 = .ok (.iastore, 1) := by decide +kernel
theorem dX5_hangs_22 : decode cX5_hangs 22 = .ok (.iconst 1, 1) := by decide +kernel
theorem dX5_hangs_23 : decode cX5_hangs 23 = .ok (.istore_n 2, 1) := by decide +kernel
theorem dX5_hangs_24 : decode cX5_hangs 24 = .ok (.iload_n 2, 1) := by decide +kernel
theorem dX5_hangs_25 : decode cX5_hangs 25 = .ok (.iload_n 1, 1) := by decide +kernel
theorem dX5_hangs_26 : decode cX5_hangs 26 = .ok (.if_icmp .gt 77, 3) := by decide +kernel
theorem dX5_hangs_29 : decode cX5_hangs 29 = .ok (.aload_n 0, 1) := by decide +kernel
theorem dX5_hangs_30 : decode cX5_hangs 30 = .ok (.getfield 90, 3) := by decide +kernel
theorem dX5_hangs_33 : decode cX5_hangs 33 = .ok (.iload_n 2, 1) := by decide +kernel
theorem dX5_hangs_34 : decode cX5_hangs 34 = .ok (.iconst 1, 1) := by decide +kernel
theorem dX5_hangs_35 : decode cX5_hangs 35 = .ok (.aload_n 0, 1) := by decide +kernel
theorem dX5_hangs_36 : decode cX5_hangs 36 = .ok (.iload_n 2, 1) := by decide +kernel
theorem dX5_hangs_37 : decode cX5_hangs 37 = .ok (.invokevirtual 157, 3) := by decide +kernel
theorem dX5_hangs_40 : decode cX5_hangs 40 = .ok (.ishl, 1) := by decide +kernel
theorem dX5_hangs_41 : decode cX5_hangs 41 = .ok (.iastore, 1) := by decide +kernel
theorem dX5_hangs_42 : decode cX5_hangs 42 = .ok (.iload_n 2, 1) := by decide +kernel
theorem dX5_hangs_43 : decode cX5_hangs 43 = .ok (.iconst 1, 1) := by decide +kernel
theorem dX5_hangs_44 : decode cX5_hangs 44 = .ok (.isub, 1) := by decide +kernel
theorem dX5_hangs_45 : decode cX5_hangs 45 = .ok (.iload_n 2, 1) := by decide +kernel
theorem dX5_hangs_46 : decode cX5_hangs 46 = .ok (.iand, 1) := by decide +kernel
theorem dX5_hangs_47 : decode cX5_hangs 47 = .ok (.istore_n 3, 1) := by decide +kernel
theorem dX5_hangs_48 : decode cX5_hangs 48 = .ok (.iload_n 3, 1) := by decide +kernel
theorem dX5_hangs_49 : decode cX5_hangs 49 = .ok (.ifCond .le 48, 3) := by decide +kernel
theorem dX5_hangs_52 : decode cX5_hangs 52 = .ok (.iload_n 3, 1) := by decide +kernel
theorem dX5_hangs_53 : decode cX5_hangs 53 = .ok (.iload_n 2, 1) := by decide +kernel
theorem dX5_hangs_54 : decode cX5_hangs 54 = .ok (.iand, 1) := by decide +kernel
theorem dX5_hangs_55 : decode cX5_hangs 55 = .ok (.iload_n 2, 1) := by decide +kernel
theorem dX5_hangs_56 : decode cX5_hangs 56 = .ok (.ineg, 1) := by decide +kernel
theorem dX5_hangs_57 : decode cX5_hangs 57 = .ok (.iand, 1) := by decide +kernel
theorem dX5_hangs_58 : decode cX5_hangs 58 = .ok (.ifCond .eq 30, 3) := by decide +kernel
theorem dX5_hangs_61 : decode cX5_hangs 61 = .ok (.aload_n 0, 1) := by decide +kernel
theorem dX5_hangs_62 : decode cX5_hangs 62 = .ok (.getfield 90, 3) := by decide +kernel
theorem dX5_hangs_65 : decode cX5_hangs 65 = .ok (.iload_n 2, 1) := by decide +kernel
theorem dX5_hangs_66 : decode cX5_hangs 66 = .ok (.dup2, 1) := by decide +kernel
theorem dX5_hangs_67 : decode cX5_hangs 67 = .ok (.iaload, 1) := by decide +kernel
theorem dX5_hangs_68 : decode cX5_hangs 68 = .ok (.aload_n 0, 1) := by decide +kernel
theorem dX5_hangs_69 : decode cX5_hangs 69 = .ok (.getfield 90, 3) := by decide +kernel
theorem dX5_hangs_72 : decode cX5_hangs 72 = .ok (.iload_n 3, 1) := by decide +kernel
theorem dX5_hangs_73 : decode cX5_hangs 73 = .ok (.iaload, 1) := by decide +kernel
theorem dX5_hangs_74 : decode cX5_hangs 74 = .ok (.iconst 1, 1) := by decide +kernel
theorem dX5_hangs_75 : decode cX5_hangs 75 = .ok (.aload_n 0, 1) := by decide +kernel
theorem dX5_hangs_76 : decode cX5_hangs 76 = .ok (.iload_n 2, 1) := by decide +kernel
theorem dX5_hangs_77 : decode cX5_hangs 77 = .ok (.iload_n 3, 1) := by decide +kernel
theorem dX5_hangs_78 : decode cX5_hangs 78 = .ok (.iconst (-1), 1) := by decide +kernel
theorem dX5_hangs_79 : decode cX5_hangs 79 = .ok (.ixor, 1) := by decide +kernel
theorem dX5_hangs_80 : decode cX5_hangs 80 = .ok (.iand, 1) := by decide +kernel
theorem dX5_hangs_81 : decode cX5_hangs 81 = .ok (.invokevirtual 157, 3) := by decide +kernel
theorem dX5_hangs_84 : decode cX5_hangs 84 = .ok (.ishl, 1) := by decide +kernel
theorem dX5_hangs_85 : decode cX5_hangs 85 = .ok (.imul, 1) := by decide +kernel
theorem dX5_hangs_86 : decode cX5_hangs 86 = .ok (.isub, 1) := by decide +kernel
theorem dX5_hangs_87 : decode cX5_hangs 87 = .ok (.iastore, 1) := by decide +kernel
theorem dX5_hangs_88 : decode cX5_hangs 88 = .ok (.iload_n 3, 1) := by decide +kernel
theorem dX5_hangs_89 : decode cX5_hangs 89 = .ok (.iconst 1, 1) := by decide +kernel
theorem dX5_hangs_90 : decode cX5_hangs 90 = .ok (.isub, 1) := by decide +kernel
theorem dX5_hangs_91 : decode cX5_hangs 91 = .ok (.iload_n 2, 1) := by decide +kernel
theorem dX5_hangs_92 : decode cX5_hangs 92 = .ok (.iand, 1) := by decide +kernel
theorem dX5_hangs_93 : decode cX5_hangs 93 = .ok (.istore_n 3, 1) := by decide +kernel
theorem dX5_hangs_94 : decode cX5_hangs 94 = .ok (.goto (-46), 3) := by decide +kernel
theorem dX5_hangs_97 : decode cX5_hangs 97 = .ok (.iinc 2 1, 3) := by decide +kernel
theorem dX5_hangs_100 : decode cX5_hangs 100 = .ok (.goto (-76), 3) := by decide +kernel
theorem dX5_hangs_103 : decode cX5_hangs 103 = .ok (.aload_n 0, 1) := by decide +kernel
theorem dX5_hangs_104 : decode cX5_hangs 104 = .ok (.getfield 90, 3) := by decide +kernel
theorem dX5_hangs_107 : decode cX5_hangs 107 = .ok (.iload_n 1, 1) := by decide +kernel
theorem dX5_hangs_108 : decode cX5_hangs 108 = .ok (.iaload, 1) := by decide +kernel
theorem dX5_hangs_109 : decode cX5_hangs 109 = .ok (.ireturn, 1) := by decide +kernel
set_option maxRecDepth 20000 in
theorem ggX5_weigh_X5_isSet : GoodIn wsX5_weigh wsX5_isSet := goodIn_r _ [7, 8, 9, 10, 6, 11, 2, 12, 13, 14, 15, 16, 17, 18, 28, 29, 30, 31, 32, 33, 34, 35, 36, 37, 38, 39, 40, 41, 42, 43, 44, 45, 46, 47, 48, 49, 50, 51] (by decide +kernel) (by decide +kernel)
set_option maxRecDepth 20000 in
theorem gX5_weigh_X5_isSet : GoodIn wsX5_weigh (wsV RX5 160 RX5 yX5_isSet wsX5_isSet) := goodIn_app (goodIn_of _ (by decide +kernel)) ggX5_weigh_X5_isSet
set_option maxRecDepth 20000 in
theorem ggX5_weigh_X5_isIn : GoodIn wsX5_weigh wsX5_isIn := goodIn_r _ [18] (by decide +kernel) (by decide +kernel)
set_option maxRecDepth 20000 in
theorem gX5_weigh_X5_isIn : GoodIn wsX5_weigh (va_wsS RX5 99 yX5_isIn wsX5_isIn) := goodIn_app (goodIn_of _ (by decide +kernel)) ggX5_weigh_X5_isIn
set_option maxRecDepth 20000 in
theorem ggX5_weigh_X5_snap : GoodIn wsX5_weigh wsX5_snap := goodIn_r _ [22, 23, 24, 2, 25, 26, 6, 27, 28, 29, 30, 31, 32, 33, 34, 35, 36, 37, 38, 39, 40, 41, 42, 43, 44, 45, 46, 47, 48, 49, 50, 51] (by decide +kernel) (by decide +kernel)
set_option maxRecDepth 20000 in
theorem gX5_weigh_X5_snap : GoodIn wsX5_weigh (wsV RX5 168 RX5 yX5_snap wsX5_snap) := goodIn_app (goodIn_of _ (by decide +kernel)) ggX5_weigh_X5_snap
theorem dX5_weigh_0 : decode cX5_weigh 0 = .ok (.aload_n 0, 1) := by decide +kernel
theorem dX5_weigh_1 : decode cX5_weigh 1 = .ok (.iconst 0, 1) := by decide +kernel
theorem dX5_weigh_2 : decode cX5_weigh 2 = .ok (.putfield 1, 3) := by decide +kernel
theorem dX5_weigh_5 : decode cX5_weigh 5 = .ok (.aload_n 0, 1) := by decide +kernel
theorem dX5_weigh_6 : decode cX5_weigh 6 = .ok (.iload_n 1, 1) := by decide +kernel
theorem dX5_weigh_7 : decode cX5_weigh 7 = .ok (.invokevirtual 160, 3) := by decide +kernel
theorem dX5_weigh_10 : decode cX5_weigh 10 = .ok (.ifCond .eq 26, 3) := by decide +kernel
theorem dX5_weigh_13 : decode cX5_weigh 13 = .ok (.iload_n 2, 1) := by decide +kernel
theorem dX5_weigh_14 : decode cX5_weigh 14 = .ok (.iconst 0, 1) := by decide +kernel
theorem dX5_weigh_15 : decode cX5_weigh 15 = .ok (.sipush 999, 3) := by decide +kernel
theorem dX5_weigh_18 : decode cX5_weigh 18 = .ok (.invokestatic 99, 3) := by decide +kernel
theorem dX5_weigh_21 : decode cX5_weigh 21 = .ok (.ifCond .eq 15, 3) := by decide +kernel
theorem dX5_weigh_24 : decode cX5_weigh 24 = .ok (.aload_n 0, 1) := by decide +kernel
theorem dX5_weigh_25 : decode cX5_weigh 25 = .ok (.getfield 56, 3) := by decide +kernel
theorem dX5_weigh_28 : decode cX5_weigh 28 = .ok (.iconst 1, 1) := by decide +kernel
theorem dX5_weigh_29 : decode cX5_weigh 29 = .ok (.iload_n 1, 1) := by decide +kernel
theorem dX5_weigh_30 : decode cX5_weigh 30 = .ok (.iadd, 1) := by decide +kernel
theorem dX5_weigh_31 : decode cX5_weigh 31 = .ok (.iaload, 1) := by decide +kernel
theorem dX5_weigh_32 : decode cX5_weigh 32 = .ok (.iload_n 2, 1) := by decide +kernel
theorem dX5_weigh_33 : decode cX5_weigh 33 = .ok (.if_icmp .ne 5, 3) := by decide +kernel
theorem dX5_weigh_36 : decode cX5_weigh 36 = .ok (.iconst (-1), 1) := by decide +kernel
theorem dX5_weigh_37 : decode cX5_weigh 37 = .ok (.ireturn, 1) := by decide +kernel
theorem dX5_weigh_38 : decode cX5_weigh 38 = .ok (.aload_n 0, 1) := by decide +kernel
theorem dX5_weigh_39 : decode cX5_weigh 39 = .ok (.invokevirtual 168, 3) := by decide +kernel
theorem dX5_weigh_42 : decode cX5_weigh 42 = .ok (.aload_n 0, 1) := by decide +kernel
theorem dX5_weigh_43 : decode cX5_weigh 43 = .ok (.getfield 56, 3) := by decide +kernel
theorem dX5_weigh_46 : decode cX5_weigh 46 = .ok (.iconst 1, 1) := by decide +kernel
theorem dX5_weigh_47 : decode cX5_weigh 47 = .ok (.iload_n 1, 1) := by decide +kernel
theorem dX5_weigh_48 : decode cX5_weigh 48 = .ok (.iadd, 1) := by decide +kernel
theorem dX5_weigh_49 : decode cX5_weigh 49 = .ok (.iaload, 1) := by decide +kernel
theorem dX5_weigh_50 : decode cX5_weigh 50 = .ok (.istore_n 3, 1) := by decide +kernel
theorem dX5_weigh_51 : decode cX5_weigh 51 = .ok (.aload_n 0, 1) := by decide +kernel
theorem dX5_weigh_52 : decode cX5_weigh 52 = .ok (.getfield 56, 3) := by decide +kernel
theorem dX5_weigh_55 : decode cX5_weigh 55 = .ok (.iconst 1, 1) := by decide +kernel
theorem dX5_weigh_56 : decode cX5_weigh 56 = .ok (.iload_n 1, 1) := by decide +kernel
theorem dX5_weigh_57 : decode cX5_weigh 57 = .ok (.iadd, 1) := by decide +kernel
theorem dX5_weigh_58 : decode cX5_weigh 58 = .ok (.iload_n 2, 1) := by decide +kernel
theorem dX5_weigh_59 : decode cX5_weigh 59 = .ok (.iastore, 1) := by decide +kernel
theorem dX5_weigh_60 : decode cX5_weigh 60 = .ok (.iload_n 3, 1) := by decide +kernel
theorem dX5_weigh_61 : decode cX5_weigh 61 = .ok (.ireturn, 1) := by decide +kernel
set_option maxRecDepth 20000 in
theorem ggX5_join_X5_isThing : GoodIn wsX5_join wsX5_isThing := goodIn_r _ [7, 8, 9, 10, 6, 11, 2, 12, 13, 14, 41, 42, 43, 44, 45, 46, 47, 48, 49, 50, 51, 52, 53, 54, 55, 56, 57, 58, 59, 60, 61, 62, 63, 64] (by decide +kernel) (by decide +kernel)
set_option maxRecDepth 20000 in
theorem gX5_join_X5_isThing : GoodIn wsX5_join (wsV RX5 163 RX5 yX5_isThing wsX5_isThing) := goodIn_app (goodIn_of _ (by decide +kernel)) ggX5_join_X5_isThing
set_option maxRecDepth 20000 in
theorem ggX5_join_X5_has : GoodIn wsX5_join wsX5_has := goodIn_r _ [17] (by decide +kernel) (by decide +kernel)
set_option maxRecDepth 20000 in
theorem gX5_join_X5_has : GoodIn wsX5_join (va_wsS RX5 103 yX5_has wsX5_has) := goodIn_app (goodIn_of _ (by decide +kernel)) ggX5_join_X5_has
set_option maxRecDepth 20000 in
theorem ggX5_join_X5_snap : GoodIn wsX5_join wsX5_snap := goodIn_r _ [21, 22, 23, 2, 24, 25, 6, 26, 41, 42, 43, 44, 45, 46, 47, 48, 49, 50, 51, 52, 53, 54, 55, 56, 57, 58, 59, 60, 61, 62, 63, 64] (by decide +kernel) (by decide +kernel)
set_option maxRecDepth 20000 in
theorem gX5_join_X5_snap : GoodIn wsX5_join (wsV RX5 168 RX5 yX5_snap wsX5_snap) := goodIn_app (goodIn_of _ (by decide +kernel)) ggX5_join_X5_snap
set_option maxRecDepth 20000 in
theorem ggX5_join_X5_joins : GoodIn wsX5_join wsX5_joins := goodIn_r _ [29] (by decide +kernel) (by decide +kernel)
set_option maxRecDepth 20000 in
theorem gX5_join_X5_joins : GoodIn wsX5_join (va_wsS RX5 117 yX5_joins wsX5_joins) := goodIn_app (goodIn_of _ (by decide +kernel)) ggX5_join_X5_joins
set_option maxRecDepth 20000 in
theorem ggX5_join_X5_all : GoodIn wsX5_join wsX5_all := goodIn_r _ [33, 8, 9, 10, 6, 11, 2, 41, 42, 43, 44, 45, 46, 47, 48, 49, 50, 51, 52, 53, 54, 55, 56, 57, 58, 59, 60, 61, 62, 63, 64] (by decide +kernel) (by decide +kernel)
set_option maxRecDepth 20000 in
theorem gX5_join_X5_all : GoodIn wsX5_join (wsV RX5 151 RX5 yX5_all wsX5_all) := goodIn_app (goodIn_of _ (by decide +kernel)) ggX5_join_X5_all
set_option maxRecDepth 20000 in
theorem ggX5_join_X5_pairsIn : GoodIn wsX5_join wsX5_pairsIn := goodIn_r _ [37, 2, 8, 9, 10, 6, 11, 15, 16, 17, 38, 39, 40, 41, 42, 43, 44, 45, 46, 47, 48, 49, 50, 51, 52, 53, 54, 55, 56, 57, 58, 59, 60, 61, 62, 63, 64] (by decide +kernel) (by decide +kernel)
set_option maxRecDepth 20000 in
theorem gX5_join_X5_pairsIn : GoodIn wsX5_join (wsV RX5 157 RX5 yX5_pairsIn wsX5_pairsIn) := goodIn_app (goodIn_of _ (by decide +kernel)) ggX5_join_X5_pairsIn
theorem dX5_join_0 : decode cX5_join 0 = .ok (.aload_n 0, 1) := by decide +kernel
theorem dX5_join_1 : decode cX5_join 1 = .ok (.iconst 0, 1) := by decide +kernel
theorem dX5_join_2 : decode cX5_join 2 = .ok (.putfield 1, 3) := by decide +kernel
theorem dX5_join_5 : decode cX5_join 5 = .ok (.aload_n 0, 1) := by decide +kernel
theorem dX5_join_6 : decode cX5_join 6 = .ok (.iload_n 1, 1) := by decide +kernel
theorem dX5_join_7 : decode cX5_join 7 = .ok (.invokevirtual 163, 3) := by decide +kernel
theorem dX5_join_10 : decode cX5_join 10 = .ok (.ifCond .eq 34, 3) := by decide +kernel
theorem dX5_join_13 : decode cX5_join 13 = .ok (.aload_n 0, 1) := by decide +kernel
theorem dX5_join_14 : decode cX5_join 14 = .ok (.iload_n 2, 1) := by decide +kernel
theorem dX5_join_15 : decode cX5_join 15 = .ok (.invokevirtual 163, 3) := by decide +kernel
theorem dX5_join_18 : decode cX5_join 18 = .ok (.ifCond .eq 26, 3) := by decide +kernel
theorem dX5_join_21 : decode cX5_join 21 = .ok (.iload_n 1, 1) := by decide +kernel
theorem dX5_join_22 : decode cX5_join 22 = .ok (.iload_n 2, 1) := by decide +kernel
theorem dX5_join_23 : decode cX5_join 23 = .ok (.if_icmp .eq 21, 3) := by decide +kernel
theorem dX5_join_26 : decode cX5_join 26 = .ok (.aload_n 0, 1) := by decide +kernel
theorem dX5_join_27 : decode cX5_join 27 = .ok (.getfield 56, 3) := by decide +kernel
theorem dX5_join_30 : decode cX5_join 30 = .ok (.sipush 257, 3) := by decide +kernel
theorem dX5_join_33 : decode cX5_join 33 = .ok (.iload_n 1, 1) := by decide +kernel
theorem dX5_join_34 : decode cX5_join 34 = .ok (.iadd, 1) := by decide +kernel
theorem dX5_join_35 : decode cX5_join 35 = .ok (.iaload, 1) := by decide +kernel
theorem dX5_join_36 : decode cX5_join 36 = .ok (.iload_n 2, 1) := by decide +kernel
theorem dX5_join_37 : decode cX5_join 37 = .ok (.invokestatic 103, 3) := by decide +kernel
theorem dX5_join_40 : decode cX5_join 40 = .ok (.iload_n 3, 1) := by decide +kernel
theorem dX5_join_41 : decode cX5_join 41 = .ok (.if_icmp .ne 5, 3) := by decide +kernel
theorem dX5_join_44 : decode cX5_join 44 = .ok (.iconst (-1), 1) := by decide +kernel
theorem dX5_join_45 : decode cX5_join 45 = .ok (.ireturn, 1) := by decide +kernel
theorem dX5_join_46 : decode cX5_join 46 = .ok (.aload_n 0, 1) := by decide +kernel
theorem dX5_join_47 : decode cX5_join 47 = .ok (.invokevirtual 168, 3) := by decide +kernel
theorem dX5_join_50 : decode cX5_join 50 = .ok (.aload_n 0, 1) := by decide +kernel
theorem dX5_join_51 : decode cX5_join 51 = .ok (.getfield 56, 3) := by decide +kernel
theorem dX5_join_54 : decode cX5_join 54 = .ok (.iload_n 1, 1) := by decide +kernel
theorem dX5_join_55 : decode cX5_join 55 = .ok (.iload_n 2, 1) := by decide +kernel
theorem dX5_join_56 : decode cX5_join 56 = .ok (.invokestatic 117, 3) := by decide +kernel
theorem dX5_join_59 : decode cX5_join 59 = .ok (.aload_n 0, 1) := by decide +kernel
theorem dX5_join_60 : decode cX5_join 60 = .ok (.aload_n 0, 1) := by decide +kernel
theorem dX5_join_61 : decode cX5_join 61 = .ok (.invokevirtual 151, 3) := by decide +kernel
theorem dX5_join_64 : decode cX5_join 64 = .ok (.invokevirtual 157, 3) := by decide +kernel
theorem dX5_join_67 : decode cX5_join 67 = .ok (.ireturn, 1) := by decide +kernel
set_option maxRecDepth 20000 in
theorem ggX5_swapped_X5_has : GoodIn wsX5_swapped wsX5_has := goodIn_r _ [4] (by decide +kernel) (by decide +kernel)
set_option maxRecDepth 20000 in
theorem gX5_swapped_X5_has : GoodIn wsX5_swapped (va_wsS RX5 103 yX5_has wsX5_has) := goodIn_app (goodIn_of _ (by decide +kernel)) ggX5_swapped_X5_has
theorem dX5_swapped_0 : decode cX5_swapped 0 = .ok (.iload_n 0, 1) := by decide +kernel
theorem dX5_swapped_1 : decode cX5_swapped 1 = .ok (.iload_n 1, 1) := by decide +kernel
theorem dX5_swapped_2 : decode cX5_swapped 2 = .ok (.invokestatic 103, 3) := by decide +kernel
theorem dX5_swapped_5 : decode cX5_swapped 5 = .ok (.iload_n 0, 1) := by decide +kernel
theorem dX5_swapped_6 : decode cX5_swapped 6 = .ok (.iload_n 2, 1) := by decide +kernel
theorem dX5_swapped_7 : decode cX5_swapped 7 = .ok (.invokestatic 103, 3) := by decide +kernel
theorem dX5_swapped_10 : decode cX5_swapped 10 = .ok (.if_icmp .ne 7, 3) := by decide +kernel
theorem dX5_swapped_13 : decode cX5_swapped 13 = .ok (.iload_n 0, 1) := by decide +kernel
theorem dX5_swapped_14 : decode cX5_swapped 14 = .ok (.goto 12, 3) := by decide +kernel
theorem dX5_swapped_17 : decode cX5_swapped 17 = .ok (.iload_n 0, 1) := by decide +kernel
theorem dX5_swapped_18 : decode cX5_swapped 18 = .ok (.iconst 1, 1) := by decide +kernel
theorem dX5_swapped_19 : decode cX5_swapped 19 = .ok (.iload_n 1, 1) := by decide +kernel
theorem dX5_swapped_20 : decode cX5_swapped 20 = .ok (.ishl, 1) := by decide +kernel
theorem dX5_swapped_21 : decode cX5_swapped 21 = .ok (.iconst 1, 1) := by decide +kernel
theorem dX5_swapped_22 : decode cX5_swapped 22 = .ok (.iload_n 2, 1) := by decide +kernel
theorem dX5_swapped_23 : decode cX5_swapped 23 = .ok (.ishl, 1) := by decide +kernel
theorem dX5_swapped_24 : decode cX5_swapped 24 = .ok (.ior, 1) := by decide +kernel
theorem dX5_swapped_25 : decode cX5_swapped 25 = .ok (.ixor, 1) := by decide +kernel
theorem dX5_swapped_26 : decode cX5_swapped 26 = .ok (.ireturn, 1) := by decide +kernel
set_option maxRecDepth 20000 in
theorem ggX5_swaps_X5_all : GoodIn wsX5_swaps wsX5_all := goodIn_r _ [7, 8, 9, 10, 6, 11, 2, 18, 19, 20, 21, 22, 23, 24, 25, 26, 27, 28, 29, 30, 31, 32, 33, 34, 35, 36, 37, 38, 39, 40, 41] (by decide +kernel) (by decide +kernel)
set_option maxRecDepth 20000 in
theorem gX5_swaps_X5_all : GoodIn wsX5_swaps (wsV RX5 151 RX5 yX5_all wsX5_all) := goodIn_app (goodIn_of _ (by decide +kernel)) ggX5_swaps_X5_all
set_option maxRecDepth 20000 in
theorem ggX5_swaps_X5_swapped : GoodIn wsX5_swaps wsX5_swapped := goodIn_r _ [14, 15, 16, 6, 17] (by decide +kernel) (by decide +kernel)
set_option maxRecDepth 20000 in
theorem gX5_swaps_X5_swapped : GoodIn wsX5_swaps (va_wsS RX5 244 yX5_swapped wsX5_swapped) := goodIn_app (goodIn_of _ (by decide +kernel)) ggX5_swaps_X5_swapped
theorem dX5_swaps_0 : decode cX5_swaps 0 = .ok (.iconst 0, 1) := by decide +kernel
theorem dX5_swaps_1 : decode cX5_swaps 1 = .ok (.istore 4, 2) := by decide +kernel
theorem dX5_swaps_3 : decode cX5_swaps 3 = .ok (.iload 4, 2) := by decide +kernel
theorem dX5_swaps_5 : decode cX5_swaps 5 = .ok (.aload_n 0, 1) := by decide +kernel
theorem dX5_swaps_6 : decode cX5_swaps 6 = .ok (.invokevirtual 151, 3) := by decide +kernel
theorem dX5_swaps_9 : decode cX5_swaps 9 = .ok (.if_icmp .gt 25, 3) := by decide +kernel
theorem dX5_swaps_12 : decode cX5_swaps 12 = .ok (.aload_n 0, 1) := by decide +kernel
theorem dX5_swaps_13 : decode cX5_swaps 13 = .ok (.getfield 75, 3) := by decide +kernel
theorem dX5_swaps_16 : decode cX5_swaps 16 = .ok (.iload 4, 2) := by decide +kernel
theorem dX5_swaps_18 : decode cX5_swaps 18 = .ok (.aload_n 0, 1) := by decide +kernel
theorem dX5_swaps_19 : decode cX5_swaps 19 = .ok (.getfield 56, 3) := by decide +kernel
theorem dX5_swaps_22 : decode cX5_swaps 22 = .ok (.iload_n 1, 1) := by decide +kernel
theorem dX5_swaps_23 : decode cX5_swaps 23 = .ok (.iload 4, 2) := by decide +kernel
theorem dX5_swaps_25 : decode cX5_swaps 25 = .ok (.iadd, 1) := by decide +kernel
theorem dX5_swaps_26 : decode cX5_swaps 26 = .ok (.iaload, 1) := by decide +kernel
theorem dX5_swaps_27 : decode cX5_swaps 27 = .ok (.iastore, 1) := by decide +kernel
theorem dX5_swaps_28 : decode cX5_swaps 28 = .ok (.iinc 4 1, 3) := by decide +kernel
theorem dX5_swaps_31 : decode cX5_swaps 31 = .ok (.goto (-28), 3) := by decide +kernel
theorem dX5_swaps_34 : decode cX5_swaps 34 = .ok (.iconst 0, 1) := by decide +kernel
theorem dX5_swaps_35 : decode cX5_swaps 35 = .ok (.istore 4, 2) := by decide +kernel
theorem dX5_swaps_37 : decode cX5_swaps 37 = .ok (.iload 4, 2) := by decide +kernel
theorem dX5_swaps_39 : decode cX5_swaps 39 = .ok (.aload_n 0, 1) := by decide +kernel
theorem dX5_swaps_40 : decode cX5_swaps 40 = .ok (.invokevirtual 151, 3) := by decide +kernel
theorem dX5_swaps_43 : decode cX5_swaps 43 = .ok (.if_icmp .gt 30, 3) := by decide +kernel
theorem dX5_swaps_46 : decode cX5_swaps 46 = .ok (.aload_n 0, 1) := by decide +kernel
theorem dX5_swaps_47 : decode cX5_swaps 47 = .ok (.getfield 56, 3) := by decide +kernel
theorem dX5_swaps_50 : decode cX5_swaps 50 = .ok (.iload_n 1, 1) := by decide +kernel
theorem dX5_swaps_51 : decode cX5_swaps 51 = .ok (.iload 4, 2) := by decide +kernel
theorem dX5_swaps_53 : decode cX5_swaps 53 = .ok (.iload_n 2, 1) := by decide +kernel
theorem dX5_swaps_54 : decode cX5_swaps 54 = .ok (.iload_n 3, 1) := by decide +kernel
theorem dX5_swaps_55 : decode cX5_swaps 55 = .ok (.invokestatic 244, 3) := by decide +kernel
theorem dX5_swaps_58 : decode cX5_swaps 58 = .ok (.iadd, 1) := by decide +kernel
theorem dX5_swaps_59 : decode cX5_swaps 59 = .ok (.aload_n 0, 1) := by decide +kernel
theorem dX5_swaps_60 : decode cX5_swaps 60 = .ok (.getfield 75, 3) := by decide +kernel
theorem dX5_swaps_63 : decode cX5_swaps 63 = .ok (.iload 4, 2) := by decide +kernel
theorem dX5_swaps_65 : decode cX5_swaps 65 = .ok (.iaload, 1) := by decide +kernel
theorem dX5_swaps_66 : decode cX5_swaps 66 = .ok (.iastore, 1) := by decide +kernel
theorem dX5_swaps_67 : decode cX5_swaps 67 = .ok (.iinc 4 1, 3) := by decide +kernel
theorem dX5_swaps_70 : decode cX5_swaps 70 = .ok (.goto (-33), 3) := by decide +kernel
theorem dX5_swaps_73 : decode cX5_swaps 73 = .ok (.return_, 1) := by decide +kernel
set_option maxRecDepth 20000 in
theorem ggX5_name_X5_isThing : GoodIn wsX5_name wsX5_isThing := goodIn_r _ [8, 9, 10, 11, 7, 12, 3, 13, 14, 15, 43, 44, 45, 46, 47, 48, 49, 50, 51, 52, 53, 54, 55, 56, 57, 58, 59, 60, 61, 62, 63, 64, 65, 66] (by decide +kernel) (by decide +kernel)
set_option maxRecDepth 20000 in
theorem gX5_name_X5_isThing : GoodIn wsX5_name (wsV RX5 163 RX5 yX5_isThing wsX5_isThing) := goodIn_app (goodIn_of _ (by decide +kernel)) ggX5_name_X5_isThing
set_option maxRecDepth 20000 in
theorem ggX5_name_X5_snap : GoodIn wsX5_name wsX5_snap := goodIn_r _ [19, 20, 21, 3, 22, 23, 7, 24, 43, 44, 45, 46, 47, 48, 49, 50, 51, 52, 53, 54, 55, 56, 57, 58, 59, 60, 61, 62, 63, 64, 65, 66] (by decide +kernel) (by decide +kernel)
set_option maxRecDepth 20000 in
theorem gX5_name_X5_snap : GoodIn wsX5_name (wsV RX5 168 RX5 yX5_snap wsX5_snap) := goodIn_app (goodIn_of _ (by decide +kernel)) ggX5_name_X5_snap
set_option maxRecDepth 20000 in
theorem ggX5_name_X5_all : GoodIn wsX5_name wsX5_all := goodIn_r _ [28, 9, 10, 11, 7, 12, 3, 43, 44, 45, 46, 47, 48, 49, 50, 51, 52, 53, 54, 55, 56, 57, 58, 59, 60, 61, 62, 63, 64, 65, 66] (by decide +kernel) (by decide +kernel)
set_option maxRecDepth 20000 in
theorem gX5_name_X5_all : GoodIn wsX5_name (wsV RX5 151 RX5 yX5_all wsX5_all) := goodIn_app (goodIn_of _ (by decide +kernel)) ggX5_name_X5_all
set_option maxRecDepth 20000 in
theorem ggX5_name_X5_isTold : GoodIn wsX5_name wsX5_isTold := goodIn_r _ [32, 3, 43, 44, 45, 46, 47, 48, 49, 50, 51, 52, 53, 54, 55, 56, 57, 58, 59, 60, 61, 62, 63, 64, 65, 66] (by decide +kernel) (by decide +kernel)
set_option maxRecDepth 20000 in
theorem gX5_name_X5_isTold : GoodIn wsX5_name (wsV RX5 220 RX5 yX5_isTold wsX5_isTold) := goodIn_app (goodIn_of _ (by decide +kernel)) ggX5_name_X5_isTold
set_option maxRecDepth 20000 in
theorem ggX5_name_X5_has : GoodIn wsX5_name wsX5_has := goodIn_r _ [35] (by decide +kernel) (by decide +kernel)
set_option maxRecDepth 20000 in
theorem gX5_name_X5_has : GoodIn wsX5_name (va_wsS RX5 103 yX5_has wsX5_has) := goodIn_app (goodIn_of _ (by decide +kernel)) ggX5_name_X5_has
set_option maxRecDepth 20000 in
theorem ggX5_name_X5_swaps : GoodIn wsX5_name wsX5_swaps := goodIn_r _ [39, 2, 3, 25, 26, 27, 7, 28, 9, 10, 11, 12, 40, 41, 42, 33, 34, 35, 43, 44, 45, 46, 47, 48, 49, 50, 51, 52, 53, 54, 55, 56, 57, 58, 59, 60, 61, 62, 63, 64, 65, 66] (by decide +kernel) (by decide +kernel)
set_option maxRecDepth 20000 in
theorem gX5_name_X5_swaps : GoodIn wsX5_name (wsV RX5 247 RX5 yX5_swaps wsX5_swaps) := goodIn_app (goodIn_of _ (by decide +kernel)) ggX5_name_X5_swaps
set_option maxRecDepth 20000 in
theorem ggX5_name_X5_things : GoodIn wsX5_name wsX5_things := goodIn_r _ [12, 3, 43, 44, 45, 46, 47, 48, 49, 50, 51, 52, 53, 54, 55, 56, 57, 58, 59, 60, 61, 62, 63, 64, 65, 66] (by decide +kernel) (by decide +kernel)
set_option maxRecDepth 20000 in
theorem gX5_name_X5_things : GoodIn wsX5_name (wsV RX5 148 RX5 yX5_things wsX5_things) := goodIn_app (goodIn_of _ (by decide +kernel)) ggX5_name_X5_things
set_option maxRecDepth 20000 in
theorem ggX5_name_X5_swapped : GoodIn wsX5_name wsX5_swapped := goodIn_r _ [42, 33, 34, 7, 35] (by decide +kernel) (by decide +kernel)
set_option maxRecDepth 20000 in
theorem gX5_name_X5_swapped : GoodIn wsX5_name (va_wsS RX5 244 yX5_swapped wsX5_swapped) := goodIn_app (goodIn_of _ (by decide +kernel)) ggX5_name_X5_swapped
theorem dX5_name_0 : decode cX5_name 0 = .ok (.aload_n 0, 1) := by decide +kernel
theorem dX5_name_1 : decode cX5_name 1 = .ok (.iconst 0, 1) := by decide +kernel
theorem dX5_name_2 : decode cX5_name 2 = .ok (.putfield 1, 3) := by decide +kernel
theorem dX5_name_5 : decode cX5_name 5 = .ok (.aload_n 0, 1) := by decide +kernel
theorem dX5_name_6 : decode cX5_name 6 = .ok (.iload_n 1, 1) := by decide +kernel
theorem dX5_name_7 : decode cX5_name 7 = .ok (.invokevirtual 163, 3) := by decide +kernel
theorem dX5_name_10 : decode cX5_name 10 = .ok (.ifCond .eq 16, 3) := by decide +kernel
theorem dX5_name_13 : decode cX5_name 13 = .ok (.aload_n 0, 1) := by decide +kernel
theorem dX5_name_14 : decode cX5_name 14 = .ok (.iload_n 2, 1) := by decide +kernel
theorem dX5_name_15 : decode cX5_name 15 = .ok (.invokevirtual 163, 3) := by decide +kernel
theorem dX5_name_18 : decode cX5_name 18 = .ok (.ifCond .eq 8, 3) := by decide +kernel
theorem dX5_name_21 : decode cX5_name 21 = .ok (.iload_n 1, 1) := by decide +kernel
theorem dX5_name_22 : decode cX5_name 22 = .ok (.iload_n 2, 1) := by decide +kernel
theorem dX5_name_23 : decode cX5_name 23 = .ok (.if_icmp .ne 5, 3) := by decide +kernel
theorem dX5_name_26 : decode cX5_name 26 = .ok (.iconst (-1), 1) := by decide +kernel
theorem dX5_name_27 : decode cX5_name 27 = .ok (.ireturn, 1) := by decide +kernel
theorem dX5_name_28 : decode cX5_name 28 = .ok (.aload_n 0, 1) := by decide +kernel
theorem dX5_name_29 : decode cX5_name 29 = .ok (.invokevirtual 168, 3) := by decide +kernel
theorem dX5_name_32 : decode cX5_name 32 = .ok (.iconst 0, 1) := by decide +kernel
theorem dX5_name_33 : decode cX5_name 33 = .ok (.istore_n 3, 1) := by decide +kernel
theorem dX5_name_34 : decode cX5_name 34 = .ok (.iconst 0, 1) := by decide +kernel
theorem dX5_name_35 : decode cX5_name 35 = .ok (.istore 4, 2) := by decide +kernel
theorem dX5_name_37 : decode cX5_name 37 = .ok (.iload 4, 2) := by decide +kernel
theorem dX5_name_39 : decode cX5_name 39 = .ok (.aload_n 0, 1) := by decide +kernel
theorem dX5_name_40 : decode cX5_name 40 = .ok (.invokevirtual 151, 3) := by decide +kernel
theorem dX5_name_43 : decode cX5_name 43 = .ok (.if_icmp .gt 36, 3) := by decide +kernel
theorem dX5_name_46 : decode cX5_name 46 = .ok (.aload_n 0, 1) := by decide +kernel
theorem dX5_name_47 : decode cX5_name 47 = .ok (.iload 4, 2) := by decide +kernel
theorem dX5_name_49 : decode cX5_name 49 = .ok (.invokevirtual 220, 3) := by decide +kernel
theorem dX5_name_52 : decode cX5_name 52 = .ok (.ifCond .eq 21, 3) := by decide +kernel
theorem dX5_name_55 : decode cX5_name 55 = .ok (.iload 4, 2) := by decide +kernel
theorem dX5_name_57 : decode cX5_name 57 = .ok (.iload_n 1, 1) := by decide +kernel
theorem dX5_name_58 : decode cX5_name 58 = .ok (.invokestatic 103, 3) := by decide +kernel
theorem dX5_name_61 : decode cX5_name 61 = .ok (.iload 4, 2) := by decide +kernel
theorem dX5_name_63 : decode cX5_name 63 = .ok (.iload_n 2, 1) := by decide +kernel
theorem dX5_name_64 : decode cX5_name 64 = .ok (.invokestatic 103, 3) := by decide +kernel
theorem dX5_name_67 : decode cX5_name 67 = .ok (.if_icmp .eq 6, 3) := by decide +kernel
theorem dX5_name_70 : decode cX5_name 70 = .ok (.iinc 3 1, 3) := by decide +kernel
theorem dX5_name_73 : decode cX5_name 73 = .ok (.iinc 4 1, 3) := by decide +kernel
theorem dX5_name_76 : decode cX5_name 76 = .ok (.goto (-39), 3) := by decide +kernel
theorem dX5_name_79 : decode cX5_name 79 = .ok (.aload_n 0, 1) := by decide +kernel
theorem dX5_name_80 : decode cX5_name 80 = .ok (.iconst 1, 1) := by decide +kernel
theorem dX5_name_81 : decode cX5_name 81 = .ok (.iload_n 1, 1) := by decide +kernel
theorem dX5_name_82 : decode cX5_name 82 = .ok (.iload_n 2, 1) := by decide +kernel
theorem dX5_name_83 : decode cX5_name 83 = .ok (.invokevirtual 247, 3) := by decide +kernel
theorem dX5_name_86 : decode cX5_name 86 = .ok (.iconst 0, 1) := by decide +kernel
theorem dX5_name_87 : decode cX5_name 87 = .ok (.istore 4, 2) := by decide +kernel
theorem dX5_name_89 : decode cX5_name 89 = .ok (.iload 4, 2) := by decide +kernel
theorem dX5_name_91 : decode cX5_name 91 = .ok (.iconst 4, 1) := by decide +kernel
theorem dX5_name_92 : decode cX5_name 92 = .ok (.if_icmp .ge 25, 3) := by decide +kernel
theorem dX5_name_95 : decode cX5_name 95 = .ok (.aload_n 0, 1) := by decide +kernel
theorem dX5_name_96 : decode cX5_name 96 = .ok (.sipush 265, 3) := by decide +kernel
theorem dX5_name_99 : decode cX5_name 99 = .ok (.sipush 256, 3) := by decide +kernel
theorem dX5_name_102 : decode cX5_name 102 = .ok (.iload 4, 2) := by decide +kernel
theorem dX5_name_104 : decode cX5_name 104 = .ok (.imul, 1) := by decide +kernel
theorem dX5_name_105 : decode cX5_name 105 = .ok (.iadd, 1) := by decide +kernel
theorem dX5_name_106 : decode cX5_name 106 = .ok (.iload_n 1, 1) := by decide +kernel
theorem dX5_name_107 : decode cX5_name 107 = .ok (.iload_n 2, 1) := by decide +kernel
theorem dX5_name_108 : decode cX5_name 108 = .ok (.invokevirtual 247, 3) := by decide +kernel
theorem dX5_name_111 : decode cX5_name 111 = .ok (.iinc 4 1, 3) := by decide +kernel
theorem dX5_name_114 : decode cX5_name 114 = .ok (.goto (-25), 3) := by decide +kernel
theorem dX5_name_117 : decode cX5_name 117 = .ok (.iconst 0, 1) := by decide +kernel
theorem dX5_name_118 : decode cX5_name 118 = .ok (.istore 4, 2) := by decide +kernel
theorem dX5_name_120 : decode cX5_name 120 = .ok (.iload 4, 2) := by decide +kernel
theorem dX5_name_122 : decode cX5_name 122 = .ok (.aload_n 0, 1) := by decide +kernel
theorem dX5_name_123 : decode cX5_name 123 = .ok (.invokevirtual 148, 3) := by decide +kernel
theorem dX5_name_126 : decode cX5_name 126 = .ok (.if_icmp .ge 27, 3) := by decide +kernel
theorem dX5_name_129 : decode cX5_name 129 = .ok (.aload_n 0, 1) := by decide +kernel
theorem dX5_name_130 : decode cX5_name 130 = .ok (.getfield 75, 3) := by decide +kernel
theorem dX5_name_133 : decode cX5_name 133 = .ok (.iload 4, 2) := by decide +kernel
theorem dX5_name_135 : decode cX5_name 135 = .ok (.aload_n 0, 1) := by decide +kernel
theorem dX5_name_136 : decode cX5_name 136 = .ok (.getfield 56, 3) := by decide +kernel
theorem dX5_name_139 : decode cX5_name 139 = .ok (.sipush 257, 3) := by decide +kernel
theorem dX5_name_142 : decode cX5_name 142 = .ok (.iload 4, 2) := by decide +kernel
theorem dX5_name_144 : decode cX5_name 144 = .ok (.iadd, 1) := by decide +kernel
theorem dX5_name_145 : decode cX5_name 145 = .ok (.iaload, 1) := by decide +kernel
theorem dX5_name_146 : decode cX5_name 146 = .ok (.iastore, 1) := by decide +kernel
theorem dX5_name_147 : decode cX5_name 147 = .ok (.iinc 4 1, 3) := by decide +kernel
theorem dX5_name_150 : decode cX5_name 150 = .ok (.goto (-30), 3) := by decide +kernel
theorem dX5_name_153 : decode cX5_name 153 = .ok (.iconst 0, 1) := by decide +kernel
theorem dX5_name_154 : decode cX5_name 154 = .ok (.istore 4, 2) := by decide +kernel
theorem dX5_name_156 : decode cX5_name 156 = .ok (.iload 4, 2) := by decide +kernel
theorem dX5_name_158 : decode cX5_name 158 = .ok (.aload_n 0, 1) := by decide +kernel
theorem dX5_name_159 : decode cX5_name 159 = .ok (.invokevirtual 148, 3) := by decide +kernel
theorem dX5_name_162 : decode cX5_name 162 = .ok (.if_icmp .ge 52, 3) := by decide +kernel
theorem dX5_name_165 : decode cX5_name 165 = .ok (.aload_n 0, 1) := by decide +kernel
theorem dX5_name_166 : decode cX5_name 166 = .ok (.getfield 56, 3) := by decide +kernel
theorem dX5_name_169 : decode cX5_name 169 = .ok (.sipush 257, 3) := by decide +kernel
theorem dX5_name_172 : decode cX5_name 172 = .ok (.iload 4, 2) := by decide +kernel
theorem dX5_name_174 : decode cX5_name 174 = .ok (.iload_n 1, 1) := by decide +kernel
theorem dX5_name_175 : decode cX5_name 175 = .ok (.if_icmp .ne 7, 3) := by decide +kernel
theorem dX5_name_178 : decode cX5_name 178 = .ok (.iload_n 2, 1) := by decide +kernel
theorem dX5_name_179 : decode cX5_name 179 = .ok (.goto 15, 3) := by decide +kernel
theorem dX5_name_182 : decode cX5_name 182 = .ok (.iload 4, 2) := by decide +kernel
theorem dX5_name_184 : decode cX5_name 184 = .ok (.iload_n 2, 1) := by decide +kernel
theorem dX5_name_185 : decode cX5_name 185 = .ok (.if_icmp .ne 7, 3) := by decide +kernel
theorem dX5_name_188 : decode cX5_name 188 = .ok (.iload_n 1, 1) := by decide +kernel
theorem dX5_name_189 : decode cX5_name 189 = .ok (.goto 5, 3) := by decide +kernel
theorem dX5_name_192 : decode cX5_name 192 = .ok (.iload 4, 2) := by decide +kernel
theorem dX5_name_194 : decode cX5_name 194 = .ok (.iadd, 1) := by decide +kernel
theorem dX5_name_195 : decode cX5_name 195 = .ok (.aload_n 0, 1) := by decide +kernel
theorem dX5_name_196 : decode cX5_name 196 = .ok (.getfield 75, 3) := by decide +kernel
theorem dX5_name_199 : decode cX5_name 199 = .ok (.iload 4, 2) := by decide +kernel
theorem dX5_name_201 : decode cX5_name 201 = .ok (.iaload, 1) := by decide +kernel
theorem dX5_name_202 : decode cX5_name 202 = .ok (.iload_n 1, 1) := by decide +kernel
theorem dX5_name_203 : decode cX5_name 203 = .ok (.iload_n 2, 1) := by decide +kernel
theorem dX5_name_204 : decode cX5_name 204 = .ok (.invokestatic 244, 3) := by decide +kernel
theorem dX5_name_207 : decode cX5_name 207 = .ok (.iastore, 1) := by decide +kernel
theorem dX5_name_208 : decode cX5_name 208 = .ok (.iinc 4 1, 3) := by decide +kernel
theorem dX5_name_211 : decode cX5_name 211 = .ok (.goto (-55), 3) := by decide +kernel
theorem dX5_name_214 : decode cX5_name 214 = .ok (.iload_n 3, 1) := by decide +kernel
theorem dX5_name_215 : decode cX5_name 215 = .ok (.ireturn, 1) := by decide +kernel
theorem dX5_draw_0 : decode cX5_draw 0 = .ok (.aload_n 0, 1) := by decide +kernel
theorem dX5_draw_1 : decode cX5_draw 1 = .ok (.aload_n 0, 1) := by decide +kernel
theorem dX5_draw_2 : decode cX5_draw 2 = .ok (.getfield 251, 3) := by decide +kernel
theorem dX5_draw_5 : decode cX5_draw 5 = .ok (.ldc 254, 2) := by decide +kernel
theorem dX5_draw_7 : decode cX5_draw 7 = .ok (.imul, 1) := by decide +kernel
theorem dX5_draw_8 : decode cX5_draw 8 = .ok (.sipush 12345, 3) := by decide +kernel
theorem dX5_draw_11 : decode cX5_draw 11 = .ok (.iadd, 1) := by decide +kernel
theorem dX5_draw_12 : decode cX5_draw 12 = .ok (.putfield 251, 3) := by decide +kernel
theorem dX5_draw_15 : decode cX5_draw 15 = .ok (.aload_n 0, 1) := by decide +kernel
theorem dX5_draw_16 : decode cX5_draw 16 = .ok (.getfield 251, 3) := by decide +kernel
theorem dX5_draw_19 : decode cX5_draw 19 = .ok (.bipush 8, 2) := by decide +kernel
theorem dX5_draw_21 : decode cX5_draw 21 = .ok (.iushr, 1) := by decide +kernel
theorem dX5_draw_22 : decode cX5_draw 22 = .ok (.iload_n 1, 1) := by decide +kernel
theorem dX5_draw_23 : decode cX5_draw 23 = .ok (.irem, 1) := by decide +kernel
theorem dX5_draw_24 : decode cX5_draw 24 = .ok (.ireturn, 1) := by decide +kernel
set_option maxRecDepth 20000 in
theorem ggX5_does_X5_draw : GoodIn wsX5_does wsX5_draw := goodIn_r _ [6, 7, 8, 20, 21, 22, 23, 24, 25, 26, 27, 28, 29, 30, 31, 32, 33, 34, 35, 36, 37, 38, 39, 40, 41, 42, 43] (by decide +kernel) (by decide +kernel)
set_option maxRecDepth 20000 in
theorem gX5_does_X5_draw : GoodIn wsX5_does (wsV RX5 255 RX5 yX5_draw wsX5_draw) := goodIn_app (goodIn_of _ (by decide +kernel)) ggX5_does_X5_draw
set_option maxRecDepth 20000 in
theorem ggX5_does_X5_things : GoodIn wsX5_does wsX5_things := goodIn_r _ [12, 1, 20, 21, 22, 23, 24, 25, 26, 27, 28, 29, 30, 31, 32, 33, 34, 35, 36, 37, 38, 39, 40, 41, 42, 43] (by decide +kernel) (by decide +kernel)
set_option maxRecDepth 20000 in
theorem gX5_does_X5_things : GoodIn wsX5_does (wsV RX5 148 RX5 yX5_things wsX5_things) := goodIn_app (goodIn_of _ (by decide +kernel)) ggX5_does_X5_things
set_option maxRecDepth 20000 in
theorem ggX5_does_X5_joins : GoodIn wsX5_does wsX5_joins := goodIn_r _ [15] (by decide +kernel) (by decide +kernel)
set_option maxRecDepth 20000 in
theorem gX5_does_X5_joins : GoodIn wsX5_does (va_wsS RX5 117 yX5_joins wsX5_joins) := goodIn_app (goodIn_of _ (by decide +kernel)) ggX5_does_X5_joins
set_option maxRecDepth 20000 in
theorem ggX5_does_X5_all : GoodIn wsX5_does wsX5_all := goodIn_r _ [19, 9, 10, 11, 5, 12, 1, 20, 21, 22, 23, 24, 25, 26, 27, 28, 29, 30, 31, 32, 33, 34, 35, 36, 37, 38, 39, 40, 41, 42, 43] (by decide +kernel) (by decide +kernel)
set_option maxRecDepth 20000 in
theorem gX5_does_X5_all : GoodIn wsX5_does (wsV RX5 151 RX5 yX5_all wsX5_all) := goodIn_app (goodIn_of _ (by decide +kernel)) ggX5_does_X5_all
theorem dX5_does_0 : decode cX5_does 0 = .ok (.aload_n 0, 1) := by decide +kernel
theorem dX5_does_1 : decode cX5_does 1 = .ok (.iconst 3, 1) := by decide +kernel
theorem dX5_does_2 : decode cX5_does 2 = .ok (.invokevirtual 255, 3) := by decide +kernel
theorem dX5_does_5 : decode cX5_does 5 = .ok (.istore_n 1, 1) := by decide +kernel
theorem dX5_does_6 : decode cX5_does 6 = .ok (.iload_n 1, 1) := by decide +kernel
theorem dX5_does_7 : decode cX5_does 7 = .ok (.ifCond .ne 36, 3) := by decide +kernel
theorem dX5_does_10 : decode cX5_does 10 = .ok (.aload_n 0, 1) := by decide +kernel
theorem dX5_does_11 : decode cX5_does 11 = .ok (.aload_n 0, 1) := by decide +kernel
theorem dX5_does_12 : decode cX5_does 12 = .ok (.invokevirtual 148, 3) := by decide +kernel
theorem dX5_does_15 : decode cX5_does 15 = .ok (.invokevirtual 255, 3) := by decide +kernel
theorem dX5_does_18 : decode cX5_does 18 = .ok (.istore_n 2, 1) := by decide +kernel
theorem dX5_does_19 : decode cX5_does 19 = .ok (.aload_n 0, 1) := by decide +kernel
theorem dX5_does_20 : decode cX5_does 20 = .ok (.aload_n 0, 1) := by decide +kernel
theorem dX5_does_21 : decode cX5_does 21 = .ok (.invokevirtual 148, 3) := by decide +kernel
theorem dX5_does_24 : decode cX5_does 24 = .ok (.invokevirtual 255, 3) := by decide +kernel
theorem dX5_does_27 : decode cX5_does 27 = .ok (.istore_n 3, 1) := by decide +kernel
theorem dX5_does_28 : decode cX5_does 28 = .ok (.iload_n 2, 1) := by decide +kernel
theorem dX5_does_29 : decode cX5_does 29 = .ok (.iload_n 3, 1) := by decide +kernel
theorem dX5_does_30 : decode cX5_does 30 = .ok (.if_icmp .eq 12, 3) := by decide +kernel
theorem dX5_does_33 : decode cX5_does 33 = .ok (.aload_n 0, 1) := by decide +kernel
theorem dX5_does_34 : decode cX5_does 34 = .ok (.getfield 56, 3) := by decide +kernel
theorem dX5_does_37 : decode cX5_does 37 = .ok (.iload_n 2, 1) := by decide +kernel
theorem dX5_does_38 : decode cX5_does 38 = .ok (.iload_n 3, 1) := by decide +kernel
theorem dX5_does_39 : decode cX5_does 39 = .ok (.invokestatic 117, 3) := by decide +kernel
theorem dX5_does_42 : decode cX5_does 42 = .ok (.return_, 1) := by decide +kernel
theorem dX5_does_43 : decode cX5_does 43 = .ok (.aload_n 0, 1) := by decide +kernel
theorem dX5_does_44 : decode cX5_does 44 = .ok (.aload_n 0, 1) := by decide +kernel
theorem dX5_does_45 : decode cX5_does 45 = .ok (.invokevirtual 151, 3) := by decide +kernel
theorem dX5_does_48 : decode cX5_does 48 = .ok (.iconst 1, 1) := by decide +kernel
theorem dX5_does_49 : decode cX5_does 49 = .ok (.iadd, 1) := by decide +kernel
theorem dX5_does_50 : decode cX5_does 50 = .ok (.invokevirtual 255, 3) := by decide +kernel
theorem dX5_does_53 : decode cX5_does 53 = .ok (.istore_n 2, 1) := by decide +kernel
theorem dX5_does_54 : decode cX5_does 54 = .ok (.aload_n 0, 1) := by decide +kernel
theorem dX5_does_55 : decode cX5_does 55 = .ok (.getfield 56, 3) := by decide +kernel
theorem dX5_does_58 : decode cX5_does 58 = .ok (.iconst 1, 1) := by decide +kernel
theorem dX5_does_59 : decode cX5_does 59 = .ok (.iload_n 2, 1) := by decide +kernel
theorem dX5_does_60 : decode cX5_does 60 = .ok (.iadd, 1) := by decide +kernel
theorem dX5_does_61 : decode cX5_does 61 = .ok (.iload_n 1, 1) := by decide +kernel
theorem dX5_does_62 : decode cX5_does 62 = .ok (.iconst 1, 1) := by decide +kernel
theorem dX5_does_63 : decode cX5_does 63 = .ok (.if_icmp .ne 14, 3) := by decide +kernel
theorem dX5_does_66 : decode cX5_does 66 = .ok (.aload_n 0, 1) := by decide +kernel
theorem dX5_does_67 : decode cX5_does 67 = .ok (.bipush 100, 2) := by decide +kernel
theorem dX5_does_69 : decode cX5_does 69 = .ok (.invokevirtual 255, 3) := by decide +kernel
theorem dX5_does_72 : decode cX5_does 72 = .ok (.iconst 1, 1) := by decide +kernel
theorem dX5_does_73 : decode cX5_does 73 = .ok (.iadd, 1) := by decide +kernel
theorem dX5_does_74 : decode cX5_does 74 = .ok (.goto 4, 3) := by decide +kernel
theorem dX5_does_77 : decode cX5_does 77 = .ok (.iconst 0, 1) := by decide +kernel
theorem dX5_does_78 : decode cX5_does 78 = .ok (.iastore, 1) := by decide +kernel
theorem dX5_does_79 : decode cX5_does 79 = .ok (.return_, 1) := by decide +kernel
set_option maxRecDepth 20000 in
theorem ggX5_drawn_X5_isIn : GoodIn wsX5_drawn wsX5_isIn := goodIn_r _ [6] (by decide +kernel) (by decide +kernel)
set_option maxRecDepth 20000 in
theorem gX5_drawn_X5_isIn : GoodIn wsX5_drawn (va_wsS RX5 99 yX5_isIn wsX5_isIn) := goodIn_app (goodIn_of _ (by decide +kernel)) ggX5_drawn_X5_isIn
set_option maxRecDepth 20000 in
theorem ggX5_drawn_X5_things : GoodIn wsX5_drawn wsX5_things := goodIn_r _ [10, 11, 41, 42, 43, 44, 45, 46, 47, 48, 49, 50, 51, 52, 53, 54, 55, 56, 57, 58, 59, 60, 61, 62, 63, 64] (by decide +kernel) (by decide +kernel)
set_option maxRecDepth 20000 in
theorem gX5_drawn_X5_things : GoodIn wsX5_drawn (wsV RX5 148 RX5 yX5_things wsX5_things) := goodIn_app (goodIn_of _ (by decide +kernel)) ggX5_drawn_X5_things
set_option maxRecDepth 20000 in
theorem ggX5_drawn_X5_snap : GoodIn wsX5_drawn wsX5_snap := goodIn_r _ [15, 16, 17, 11, 18, 19, 5, 20, 41, 42, 43, 44, 45, 46, 47, 48, 49, 50, 51, 52, 53, 54, 55, 56, 57, 58, 59, 60, 61, 62, 63, 64] (by decide +kernel) (by decide +kernel)
set_option maxRecDepth 20000 in
theorem gX5_drawn_X5_snap : GoodIn wsX5_drawn (wsV RX5 168 RX5 yX5_snap wsX5_snap) := goodIn_app (goodIn_of _ (by decide +kernel)) ggX5_drawn_X5_snap
set_option maxRecDepth 20000 in
theorem ggX5_drawn_X5_does : GoodIn wsX5_drawn wsX5_does := goodIn_r _ [24, 11, 25, 26, 27, 5, 28, 2, 29, 7, 8, 9, 10, 30, 31, 32, 33, 34, 35, 36, 41, 42, 43, 44, 45, 46, 47, 48, 49, 50, 51, 52, 53, 54, 55, 56, 57, 58, 59, 60, 61, 62, 63, 64] (by decide +kernel) (by decide +kernel)
set_option maxRecDepth 20000 in
theorem gX5_drawn_X5_does : GoodIn wsX5_drawn (wsV RX5 258 RX5 yX5_does wsX5_does) := goodIn_app (goodIn_of _ (by decide +kernel)) ggX5_drawn_X5_does
set_option maxRecDepth 20000 in
theorem ggX5_drawn_X5_told : GoodIn wsX5_drawn wsX5_told := goodIn_r _ [40, 11, 41, 42, 43, 44, 45, 46, 47, 48, 49, 50, 51, 52, 53, 54, 55, 56, 57, 58, 59, 60, 61, 62, 63, 64] (by decide +kernel) (by decide +kernel)
set_option maxRecDepth 20000 in
theorem gX5_drawn_X5_told : GoodIn wsX5_drawn (wsV RX5 154 RX5 yX5_told wsX5_told) := goodIn_app (goodIn_of _ (by decide +kernel)) ggX5_drawn_X5_told
theorem dX5_drawn_0 : decode cX5_drawn 0 = .ok (.aload_n 0, 1) := by decide +kernel
theorem dX5_drawn_1 : decode cX5_drawn 1 = .ok (.iconst 0, 1) := by decide +kernel
theorem dX5_drawn_2 : decode cX5_drawn 2 = .ok (.putfield 1, 3) := by decide +kernel
theorem dX5_drawn_5 : decode cX5_drawn 5 = .ok (.iload_n 1, 1) := by decide +kernel
theorem dX5_drawn_6 : decode cX5_drawn 6 = .ok (.iconst 1, 1) := by decide +kernel
theorem dX5_drawn_7 : decode cX5_drawn 7 = .ok (.bipush 60, 2) := by decide +kernel
theorem dX5_drawn_9 : decode cX5_drawn 9 = .ok (.invokestatic 99, 3) := by decide +kernel
theorem dX5_drawn_12 : decode cX5_drawn 12 = .ok (.ifCond .ne 5, 3) := by decide +kernel
theorem dX5_drawn_15 : decode cX5_drawn 15 = .ok (.iconst (-1), 1) := by decide +kernel
theorem dX5_drawn_16 : decode cX5_drawn 16 = .ok (.ireturn, 1) := by decide +kernel
theorem dX5_drawn_17 : decode cX5_drawn 17 = .ok (.aload_n 0, 1) := by decide +kernel
theorem dX5_drawn_18 : decode cX5_drawn 18 = .ok (.invokevirtual 148, 3) := by decide +kernel
theorem dX5_drawn_21 : decode cX5_drawn 21 = .ok (.ifCond .ne 5, 3) := by decide +kernel
theorem dX5_drawn_24 : decode cX5_drawn 24 = .ok (.iconst 0, 1) := by decide +kernel
theorem dX5_drawn_25 : decode cX5_drawn 25 = .ok (.ireturn, 1) := by decide +kernel
theorem dX5_drawn_26 : decode cX5_drawn 26 = .ok (.aload_n 0, 1) := by decide +kernel
theorem dX5_drawn_27 : decode cX5_drawn 27 = .ok (.invokevirtual 168, 3) := by decide +kernel
theorem dX5_drawn_30 : decode cX5_drawn 30 = .ok (.aload_n 0, 1) := by decide +kernel
theorem dX5_drawn_31 : decode cX5_drawn 31 = .ok (.iload_n 2, 1) := by decide +kernel
theorem dX5_drawn_32 : decode cX5_drawn 32 = .ok (.putfield 251, 3) := by decide +kernel
theorem dX5_drawn_35 : decode cX5_drawn 35 = .ok (.iconst 0, 1) := by decide +kernel
theorem dX5_drawn_36 : decode cX5_drawn 36 = .ok (.istore_n 3, 1) := by decide +kernel
theorem dX5_drawn_37 : decode cX5_drawn 37 = .ok (.iload_n 3, 1) := by decide +kernel
theorem dX5_drawn_38 : decode cX5_drawn 38 = .ok (.iload_n 1, 1) := by decide +kernel
theorem dX5_drawn_39 : decode cX5_drawn 39 = .ok (.if_icmp .ge 13, 3) := by decide +kernel
theorem dX5_drawn_42 : decode cX5_drawn 42 = .ok (.aload_n 0, 1) := by decide +kernel
theorem dX5_drawn_43 : decode cX5_drawn 43 = .ok (.invokevirtual 258, 3) := by decide +kernel
theorem dX5_drawn_46 : decode cX5_drawn 46 = .ok (.iinc 3 1, 3) := by decide +kernel
theorem dX5_drawn_49 : decode cX5_drawn 49 = .ok (.goto (-12), 3) := by decide +kernel
theorem dX5_drawn_52 : decode cX5_drawn 52 = .ok (.aload_n 0, 1) := by decide +kernel
theorem dX5_drawn_53 : decode cX5_drawn 53 = .ok (.invokevirtual 154, 3) := by decide +kernel
theorem dX5_drawn_56 : decode cX5_drawn 56 = .ok (.ireturn, 1) := by decide +kernel
set_option maxRecDepth 20000 in
theorem ggX5_undo_X5_copy : GoodIn wsX5_undo wsX5_copy := goodIn_r _ [8] (by decide +kernel) (by decide +kernel)
set_option maxRecDepth 20000 in
theorem gX5_undo_X5_copy : GoodIn wsX5_undo (va_wsS RX5 141 yX5_copy wsX5_copy) := goodIn_app (goodIn_of _ (by decide +kernel)) ggX5_undo_X5_copy
theorem dX5_undo_0 : decode cX5_undo 0 = .ok (.aload_n 0, 1) := by decide +kernel
theorem dX5_undo_1 : decode cX5_undo 1 = .ok (.iconst 0, 1) := by decide +kernel
theorem dX5_undo_2 : decode cX5_undo 2 = .ok (.putfield 1, 3) := by decide +kernel
theorem dX5_undo_5 : decode cX5_undo 5 = .ok (.aload_n 0, 1) := by decide +kernel
theorem dX5_undo_6 : decode cX5_undo 6 = .ok (.getfield 145, 3) := by decide +kernel
theorem dX5_undo_9 : decode cX5_undo 9 = .ok (.ifCond .ne 5, 3) := by decide +kernel
theorem dX5_undo_12 : decode cX5_undo 12 = .ok (.iconst (-1), 1) := by decide +kernel
theorem dX5_undo_13 : decode cX5_undo 13 = .ok (.ireturn, 1) := by decide +kernel
theorem dX5_undo_14 : decode cX5_undo 14 = .ok (.aload_n 0, 1) := by decide +kernel
theorem dX5_undo_15 : decode cX5_undo 15 = .ok (.dup, 1) := by decide +kernel
theorem dX5_undo_16 : decode cX5_undo 16 = .ok (.getfield 145, 3) := by decide +kernel
theorem dX5_undo_19 : decode cX5_undo 19 = .ok (.iconst 1, 1) := by decide +kernel
theorem dX5_undo_20 : decode cX5_undo 20 = .ok (.isub, 1) := by decide +kernel
theorem dX5_undo_21 : decode cX5_undo 21 = .ok (.putfield 145, 3) := by decide +kernel
theorem dX5_undo_24 : decode cX5_undo 24 = .ok (.aload_n 0, 1) := by decide +kernel
theorem dX5_undo_25 : decode cX5_undo 25 = .ok (.getfield 65, 3) := by decide +kernel
theorem dX5_undo_28 : decode cX5_undo 28 = .ok (.sipush 1289, 3) := by decide +kernel
theorem dX5_undo_31 : decode cX5_undo 31 = .ok (.aload_n 0, 1) := by decide +kernel
theorem dX5_undo_32 : decode cX5_undo 32 = .ok (.getfield 145, 3) := by decide +kernel
theorem dX5_undo_35 : decode cX5_undo 35 = .ok (.imul, 1) := by decide +kernel
theorem dX5_undo_36 : decode cX5_undo 36 = .ok (.aload_n 0, 1) := by decide +kernel
theorem dX5_undo_37 : decode cX5_undo 37 = .ok (.getfield 56, 3) := by decide +kernel
theorem dX5_undo_40 : decode cX5_undo 40 = .ok (.iconst 0, 1) := by decide +kernel
theorem dX5_undo_41 : decode cX5_undo 41 = .ok (.invokestatic 141, 3) := by decide +kernel
theorem dX5_undo_44 : decode cX5_undo 44 = .ok (.aload_n 0, 1) := by decide +kernel
theorem dX5_undo_45 : decode cX5_undo 45 = .ok (.getfield 145, 3) := by decide +kernel
theorem dX5_undo_48 : decode cX5_undo 48 = .ok (.ireturn, 1) := by decide +kernel
set_option maxRecDepth 20000 in
theorem ggX5_image_X5_isIn : GoodIn wsX5_image wsX5_isIn := goodIn_r _ [8] (by decide +kernel) (by decide +kernel)
set_option maxRecDepth 20000 in
theorem gX5_image_X5_isIn : GoodIn wsX5_image (va_wsS RX5 99 yX5_isIn wsX5_isIn) := goodIn_app (goodIn_of _ (by decide +kernel)) ggX5_image_X5_isIn
set_option maxRecDepth 20000 in
theorem ggX5_image_X5_copy : GoodIn wsX5_image wsX5_copy := goodIn_r _ [11] (by decide +kernel) (by decide +kernel)
set_option maxRecDepth 20000 in
theorem gX5_image_X5_copy : GoodIn wsX5_image (va_wsS RX5 141 yX5_copy wsX5_copy) := goodIn_app (goodIn_of _ (by decide +kernel)) ggX5_image_X5_copy
theorem dX5_image_0 : decode cX5_image 0 = .ok (.aload_n 0, 1) := by decide +kernel
theorem dX5_image_1 : decode cX5_image 1 = .ok (.iconst 0, 1) := by decide +kernel
theorem dX5_image_2 : decode cX5_image 2 = .ok (.putfield 1, 3) := by decide +kernel
theorem dX5_image_5 : decode cX5_image 5 = .ok (.iload_n 1, 1) := by decide +kernel
theorem dX5_image_6 : decode cX5_image 6 = .ok (.iconst 0, 1) := by decide +kernel
theorem dX5_image_7 : decode cX5_image 7 = .ok (.iconst 1, 1) := by decide +kernel
theorem dX5_image_8 : decode cX5_image 8 = .ok (.invokestatic 99, 3) := by decide +kernel
theorem dX5_image_11 : decode cX5_image 11 = .ok (.ifCond .ne 5, 3) := by decide +kernel
theorem dX5_image_14 : decode cX5_image 14 = .ok (.iconst 0, 1) := by decide +kernel
theorem dX5_image_15 : decode cX5_image 15 = .ok (.ireturn, 1) := by decide +kernel
theorem dX5_image_16 : decode cX5_image 16 = .ok (.aload_n 0, 1) := by decide +kernel
theorem dX5_image_17 : decode cX5_image 17 = .ok (.getfield 56, 3) := by decide +kernel
theorem dX5_image_20 : decode cX5_image 20 = .ok (.iconst 0, 1) := by decide +kernel
theorem dX5_image_21 : decode cX5_image 21 = .ok (.aload_n 0, 1) := by decide +kernel
theorem dX5_image_22 : decode cX5_image 22 = .ok (.getfield 62, 3) := by decide +kernel
theorem dX5_image_25 : decode cX5_image 25 = .ok (.sipush 1289, 3) := by decide +kernel
theorem dX5_image_28 : decode cX5_image 28 = .ok (.iload_n 1, 1) := by decide +kernel
theorem dX5_image_29 : decode cX5_image 29 = .ok (.imul, 1) := by decide +kernel
theorem dX5_image_30 : decode cX5_image 30 = .ok (.invokestatic 141, 3) := by decide +kernel
theorem dX5_image_33 : decode cX5_image 33 = .ok (.aload_n 0, 1) := by decide +kernel
theorem dX5_image_34 : decode cX5_image 34 = .ok (.getfield 68, 3) := by decide +kernel
theorem dX5_image_37 : decode cX5_image 37 = .ok (.iload_n 1, 1) := by decide +kernel
theorem dX5_image_38 : decode cX5_image 38 = .ok (.iconst 1, 1) := by decide +kernel
theorem dX5_image_39 : decode cX5_image 39 = .ok (.bastore, 1) := by decide +kernel
theorem dX5_image_40 : decode cX5_image 40 = .ok (.iconst 1, 1) := by decide +kernel
theorem dX5_image_41 : decode cX5_image 41 = .ok (.ireturn, 1) := by decide +kernel
set_option maxRecDepth 20000 in
theorem ggX5_restore_X5_isIn : GoodIn wsX5_restore wsX5_isIn := goodIn_r _ [9] (by decide +kernel) (by decide +kernel)
set_option maxRecDepth 20000 in
theorem gX5_restore_X5_isIn : GoodIn wsX5_restore (va_wsS RX5 99 yX5_isIn wsX5_isIn) := goodIn_app (goodIn_of _ (by decide +kernel)) ggX5_restore_X5_isIn
set_option maxRecDepth 20000 in
theorem ggX5_restore_X5_copy : GoodIn wsX5_restore wsX5_copy := goodIn_r _ [12] (by decide +kernel) (by decide +kernel)
set_option maxRecDepth 20000 in
theorem gX5_restore_X5_copy : GoodIn wsX5_restore (va_wsS RX5 141 yX5_copy wsX5_copy) := goodIn_app (goodIn_of _ (by decide +kernel)) ggX5_restore_X5_copy
theorem dX5_restore_0 : decode cX5_restore 0 = .ok (.aload_n 0, 1) := by decide +kernel
theorem dX5_restore_1 : decode cX5_restore 1 = .ok (.iconst 0, 1) := by decide +kernel
theorem dX5_restore_2 : decode cX5_restore 2 = .ok (.putfield 1, 3) := by decide +kernel
theorem dX5_restore_5 : decode cX5_restore 5 = .ok (.iload_n 1, 1) := by decide +kernel
theorem dX5_restore_6 : decode cX5_restore 6 = .ok (.iconst 0, 1) := by decide +kernel
theorem dX5_restore_7 : decode cX5_restore 7 = .ok (.iconst 1, 1) := by decide +kernel
theorem dX5_restore_8 : decode cX5_restore 8 = .ok (.invokestatic 99, 3) := by decide +kernel
theorem dX5_restore_11 : decode cX5_restore 11 = .ok (.ifCond .eq 12, 3) := by decide +kernel
theorem dX5_restore_14 : decode cX5_restore 14 = .ok (.aload_n 0, 1) := by decide +kernel
theorem dX5_restore_15 : decode cX5_restore 15 = .ok (.getfield 68, 3) := by decide +kernel
theorem dX5_restore_18 : decode cX5_restore 18 = .ok (.iload_n 1, 1) := by decide +kernel
theorem dX5_restore_19 : decode cX5_restore 19 = .ok (.baload, 1) := by decide +kernel
theorem dX5_restore_20 : decode cX5_restore 20 = .ok (.ifCond .ne 5, 3) := by decide +kernel
theorem dX5_restore_23 : decode cX5_restore 23 = .ok (.iconst 0, 1) := by decide +kernel
theorem dX5_restore_24 : decode cX5_restore 24 = .ok (.ireturn, 1) := by decide +kernel
theorem dX5_restore_25 : decode cX5_restore 25 = .ok (.aload_n 0, 1) := by decide +kernel
theorem dX5_restore_26 : decode cX5_restore 26 = .ok (.getfield 62, 3) := by decide +kernel
theorem dX5_restore_29 : decode cX5_restore 29 = .ok (.sipush 1289, 3) := by decide +kernel
theorem dX5_restore_32 : decode cX5_restore 32 = .ok (.iload_n 1, 1) := by decide +kernel
theorem dX5_restore_33 : decode cX5_restore 33 = .ok (.imul, 1) := by decide +kernel
theorem dX5_restore_34 : decode cX5_restore 34 = .ok (.aload_n 0, 1) := by decide +kernel
theorem dX5_restore_35 : decode cX5_restore 35 = .ok (.getfield 56, 3) := by decide +kernel
theorem dX5_restore_38 : decode cX5_restore 38 = .ok (.iconst 0, 1) := by decide +kernel
theorem dX5_restore_39 : decode cX5_restore 39 = .ok (.invokestatic 141, 3) := by decide +kernel
theorem dX5_restore_42 : decode cX5_restore 42 = .ok (.aload_n 0, 1) := by decide +kernel
theorem dX5_restore_43 : decode cX5_restore 43 = .ok (.iconst 0, 1) := by decide +kernel
theorem dX5_restore_44 : decode cX5_restore 44 = .ok (.putfield 145, 3) := by decide +kernel
theorem dX5_restore_47 : decode cX5_restore 47 = .ok (.iconst 1, 1) := by decide +kernel
theorem dX5_restore_48 : decode cX5_restore 48 = .ok (.ireturn, 1) := by decide +kernel
theorem dJ6_bitCount_0f7a4_0 : decode cJ6_bitCount_0f7a4 0 = .ok (.iload_n 0, 1) := by decide +kernel
theorem dJ6_bitCount_0f7a4_1 : decode cJ6_bitCount_0f7a4 1 = .ok (.iload_n 0, 1) := by decide +kernel
theorem dJ6_bitCount_0f7a4_2 : decode cJ6_bitCount_0f7a4 2 = .ok (.iconst 1, 1) := by decide +kernel
theorem dJ6_bitCount_0f7a4_3 : decode cJ6_bitCount_0f7a4 3 = .ok (.iushr, 1) := by decide +kernel
theorem dJ6_bitCount_0f7a4_4 : decode cJ6_bitCount_0f7a4 4 = .ok (.ldc_w 265, 3) := by decide +kernel
theorem dJ6_bitCount_0f7a4_7 : decode cJ6_bitCount_0f7a4 7 = .ok (.iand, 1) := by decide +kernel
theorem dJ6_bitCount_0f7a4_8 : decode cJ6_bitCount_0f7a4 8 = .ok (.isub, 1) := by decide +kernel
theorem dJ6_bitCount_0f7a4_9 : decode cJ6_bitCount_0f7a4 9 = .ok (.istore_n 0, 1) := by decide +kernel
theorem dJ6_bitCount_0f7a4_10 : decode cJ6_bitCount_0f7a4 10 = .ok (.iload_n 0, 1) := by decide +kernel
theorem dJ6_bitCount_0f7a4_11 : decode cJ6_bitCount_0f7a4 11 = .ok (.ldc_w 266, 3) := by decide +kernel
theorem dJ6_bitCount_0f7a4_14 : decode cJ6_bitCount_0f7a4 14 = .ok (.iand, 1) := by decide +kernel
theorem dJ6_bitCount_0f7a4_15 : decode cJ6_bitCount_0f7a4 15 = .ok (.iload_n 0, 1) := by decide +kernel
theorem dJ6_bitCount_0f7a4_16 : decode cJ6_bitCount_0f7a4 16 = .ok (.iconst 2, 1) := by decide +kernel
theorem dJ6_bitCount_0f7a4_17 : decode cJ6_bitCount_0f7a4 17 = .ok (.iushr, 1) := by decide +kernel
theorem dJ6_bitCount_0f7a4_18 : decode cJ6_bitCount_0f7a4 18 = .ok (.ldc_w 266, 3) := by decide +kernel
theorem dJ6_bitCount_0f7a4_21 : decode cJ6_bitCount_0f7a4 21 = .ok (.iand, 1) := by decide +kernel
theorem dJ6_bitCount_0f7a4_22 : decode cJ6_bitCount_0f7a4 22 = .ok (.iadd, 1) := by decide +kernel
theorem dJ6_bitCount_0f7a4_23 : decode cJ6_bitCount_0f7a4 23 = .ok (.istore_n 0, 1) := by decide +kernel
theorem dJ6_bitCount_0f7a4_24 : decode cJ6_bitCount_0f7a4 24 = .ok (.iload_n 0, 1) := by decide +kernel
theorem dJ6_bitCount_0f7a4_25 : decode cJ6_bitCount_0f7a4 25 = .ok (.iload_n 0, 1) := by decide +kernel
theorem dJ6_bitCount_0f7a4_26 : decode cJ6_bitCount_0f7a4 26 = .ok (.iconst 4, 1) := by decide +kernel
theorem dJ6_bitCount_0f7a4_27 : decode cJ6_bitCount_0f7a4 27 = .ok (.iushr, 1) := by decide +kernel
theorem dJ6_bitCount_0f7a4_28 : decode cJ6_bitCount_0f7a4 28 = .ok (.iadd, 1) := by decide +kernel
theorem dJ6_bitCount_0f7a4_29 : decode cJ6_bitCount_0f7a4 29 = .ok (.ldc_w 267, 3) := by decide +kernel
theorem dJ6_bitCount_0f7a4_32 : decode cJ6_bitCount_0f7a4 32 = .ok (.iand, 1) := by decide +kernel
theorem dJ6_bitCount_0f7a4_33 : decode cJ6_bitCount_0f7a4 33 = .ok (.istore_n 0, 1) := by decide +kernel
theorem dJ6_bitCount_0f7a4_34 : decode cJ6_bitCount_0f7a4 34 = .ok (.iload_n 0, 1) := by decide +kernel
theorem dJ6_bitCount_0f7a4_35 : decode cJ6_bitCount_0f7a4 35 = .ok (.iload_n 0, 1) := by decide +kernel
theorem dJ6_bitCount_0f7a4_36 : decode cJ6_bitCount_0f7a4 36 = .ok (.bipush 8, 2) := by decide +kernel
theorem dJ6_bitCount_0f7a4_38 : decode cJ6_bitCount_0f7a4 38 = .ok (.iushr, 1) := by decide +kernel
theorem dJ6_bitCount_0f7a4_39 : decode cJ6_bitCount_0f7a4 39 = .ok (.iadd, 1) := by decide +kernel
theorem dJ6_bitCount_0f7a4_40 : decode cJ6_bitCount_0f7a4 40 = .ok (.istore_n 0, 1) := by decide +kernel
theorem dJ6_bitCount_0f7a4_41 : decode cJ6_bitCount_0f7a4 41 = .ok (.iload_n 0, 1) := by decide +kernel
theorem dJ6_bitCount_0f7a4_42 : decode cJ6_bitCount_0f7a4 42 = .ok (.iload_n 0, 1) := by decide +kernel
theorem dJ6_bitCount_0f7a4_43 : decode cJ6_bitCount_0f7a4 43 = .ok (.bipush 16, 2) := by decide +kernel
theorem dJ6_bitCount_0f7a4_45 : decode cJ6_bitCount_0f7a4 45 = .ok (.iushr, 1) := by decide +kernel
theorem dJ6_bitCount_0f7a4_46 : decode cJ6_bitCount_0f7a4 46 = .ok (.iadd, 1) := by decide +kernel
theorem dJ6_bitCount_0f7a4_47 : decode cJ6_bitCount_0f7a4 47 = .ok (.istore_n 0, 1) := by decide +kernel
theorem dJ6_bitCount_0f7a4_48 : decode cJ6_bitCount_0f7a4 48 = .ok (.iload_n 0, 1) := by decide +kernel
theorem dJ6_bitCount_0f7a4_49 : decode cJ6_bitCount_0f7a4 49 = .ok (.bipush 63, 2) := by decide +kernel
theorem dJ6_bitCount_0f7a4_51 : decode cJ6_bitCount_0f7a4 51 = .ok (.iand, 1) := by decide +kernel
theorem dJ6_bitCount_0f7a4_52 : decode cJ6_bitCount_0f7a4 52 = .ok (.ireturn, 1) := by decide +kernel
theorem dJ13_bitCount_95d88_0 : decode cJ13_bitCount_95d88 0 = .ok (.lload_n 0, 1) := by decide +kernel
theorem dJ13_bitCount_95d88_1 : decode cJ13_bitCount_95d88 1 = .ok (.lload_n 0, 1) := by decide +kernel
theorem dJ13_bitCount_95d88_2 : decode cJ13_bitCount_95d88 2 = .ok (.iconst 1, 1) := by decide +kernel
theorem dJ13_bitCount_95d88_3 : decode cJ13_bitCount_95d88 3 = .ok (.lushr, 1) := by decide +kernel
theorem dJ13_bitCount_95d88_4 : decode cJ13_bitCount_95d88 4 = .ok (.ldc2_w 314, 3) := by decide +kernel
theorem dJ13_bitCount_95d88_7 : decode cJ13_bitCount_95d88 7 = .ok (.land, 1) := by decide +kernel
theorem dJ13_bitCount_95d88_8 : decode cJ13_bitCount_95d88 8 = .ok (.lsub, 1) := by decide +kernel
theorem dJ13_bitCount_95d88_9 : decode cJ13_bitCount_95d88 9 = .ok (.lstore_n 0, 1) := by decide +kernel
theorem dJ13_bitCount_95d88_10 : decode cJ13_bitCount_95d88 10 = .ok (.lload_n 0, 1) := by decide +kernel
theorem dJ13_bitCount_95d88_11 : decode cJ13_bitCount_95d88 11 = .ok (.ldc2_w 316, 3) := by decide +kernel
theorem dJ13_bitCount_95d88_14 : decode cJ13_bitCount_95d88 14 = .ok (.land, 1) := by decide +kernel
theorem dJ13_bitCount_95d88_15 : decode cJ13_bitCount_95d88 15 = .ok (.lload_n 0, 1) := by decide +kernel
theorem dJ13_bitCount_95d88_16 : decode cJ13_bitCount_95d88 16 = .ok (.iconst 2, 1) := by decide +kernel
theorem dJ13_bitCount_95d88_17 : decode cJ13_bitCount_95d88 17 = .ok (.lushr, 1) := by decide +kernel
theorem dJ13_bitCount_95d88_18 : decode cJ13_bitCount_95d88 18 = .ok (.ldc2_w 316, 3) := by decide +kernel
theorem dJ13_bitCount_95d88_21 : decode cJ13_bitCount_95d88 21 = .ok (.land, 1) := by decide +kernel
theorem dJ13_bitCount_95d88_22 : decode cJ13_bitCount_95d88 22 = .ok (.ladd, 1) := by decide +kernel
theorem dJ13_bitCount_95d88_23 : decode cJ13_bitCount_95d88 23 = .ok (.lstore_n 0, 1) := by decide +kernel
theorem dJ13_bitCount_95d88_24 : decode cJ13_bitCount_95d88 24 = .ok (.lload_n 0, 1) := by decide +kernel
theorem dJ13_bitCount_95d88_25 : decode cJ13_bitCount_95d88 25 = .ok (.lload_n 0, 1) := by decide +kernel
theorem dJ13_bitCount_95d88_26 : decode cJ13_bitCount_95d88 26 = .ok (.iconst 4, 1) := by decide +kernel
theorem dJ13_bitCount_95d88_27 : decode cJ13_bitCount_95d88 27 = .ok (.lushr, 1) := by decide +kernel
theorem dJ13_bitCount_95d88_28 : decode cJ13_bitCount_95d88 28 = .ok (.ladd, 1) := by decide +kernel
theorem dJ13_bitCount_95d88_29 : decode cJ13_bitCount_95d88 29 = .ok (.ldc2_w 318, 3) := by decide +kernel
theorem dJ13_bitCount_95d88_32 : decode cJ13_bitCount_95d88 32 = .ok (.land, 1) := by decide +kernel
theorem dJ13_bitCount_95d88_33 : decode cJ13_bitCount_95d88 33 = .ok (.lstore_n 0, 1) := by decide +kernel
theorem dJ13_bitCount_95d88_34 : decode cJ13_bitCount_95d88 34 = .ok (.lload_n 0, 1) := by decide +kernel
theorem dJ13_bitCount_95d88_35 : decode cJ13_bitCount_95d88 35 = .ok (.lload_n 0, 1) := by decide +kernel
theorem dJ13_bitCount_95d88_36 : decode cJ13_bitCount_95d88 36 = .ok (.bipush 8, 2) := by decide +kernel
theorem dJ13_bitCount_95d88_38 : decode cJ13_bitCount_95d88 38 = .ok (.lushr, 1) := by decide +kernel
theorem dJ13_bitCount_95d88_39 : decode cJ13_bitCount_95d88 39 = .ok (.ladd, 1) := by decide +kernel
theorem dJ13_bitCount_95d88_40 : decode cJ13_bitCount_95d88 40 = .ok (.lstore_n 0, 1) := by decide +kernel
theorem dJ13_bitCount_95d88_41 : decode cJ13_bitCount_95d88 41 = .ok (.lload_n 0, 1) := by decide +kernel
theorem dJ13_bitCount_95d88_42 : decode cJ13_bitCount_95d88 42 = .ok (.lload_n 0, 1) := by decide +kernel
theorem dJ13_bitCount_95d88_43 : decode cJ13_bitCount_95d88 43 = .ok (.bipush 16, 2) := by decide +kernel
theorem dJ13_bitCount_95d88_45 : decode cJ13_bitCount_95d88 45 = .ok (.lushr, 1) := by decide +kernel
theorem dJ13_bitCount_95d88_46 : decode cJ13_bitCount_95d88 46 = .ok (.ladd, 1) := by decide +kernel
