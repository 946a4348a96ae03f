theorem dX4_doDeed_85 : decode cX4_doDeed 85 = .ok (.iconst 2, 1) := by decide +kernel
theorem dX4_doDeed_86 : decode cX4_doDeed 86 = .ok (.if_icmp .ne 18, 3) := by decide +kernel
theorem dX4_doDeed_89 : decode cX4_doDeed 89 = .ok (.aload_n 0, 1) := by decide +kernel
theorem dX4_doDeed_90 : decode cX4_doDeed 90 = .ok (.getfield 10, 3) := by decide +kernel
theorem dX4_doDeed_93 : decode cX4_doDeed 93 = .ok (.getfield 106, 3) := by decide +kernel
theorem dX4_doDeed_96 : decode cX4_doDeed 96 = .ok (.iconst 4, 1) := by decide +kernel
theorem dX4_doDeed_97 : decode cX4_doDeed 97 = .ok (.aaload, 1) := by decide +kernel
theorem dX4_doDeed_98 : decode cX4_doDeed 98 = .ok (.iload 4, 2) := by decide +kernel
theorem dX4_doDeed_100 : decode cX4_doDeed 100 = .ok (.iconst 0, 1) := by decide +kernel
theorem dX4_doDeed_101 : decode cX4_doDeed 101 = .ok (.iastore, 1) := by decide +kernel
theorem dX4_doDeed_102 : decode cX4_doDeed 102 = .ok (.iload_n 2, 1) := by decide +kernel
theorem dX4_doDeed_103 : decode cX4_doDeed 103 = .ok (.ireturn, 1) := by decide +kernel
theorem dX4_doDeed_104 : decode cX4_doDeed 104 = .ok (.iload_n 2, 1) := by decide +kernel
theorem dX4_doDeed_105 : decode cX4_doDeed 105 = .ok (.invokestatic 297, 3) := by decide +kernel
theorem dX4_doDeed_108 : decode cX4_doDeed 108 = .ok (.istore_n 2, 1) := by decide +kernel
theorem dX4_doDeed_109 : decode cX4_doDeed 109 = .ok (.aload_n 0, 1) := by decide +kernel
theorem dX4_doDeed_110 : decode cX4_doDeed 110 = .ok (.getfield 10, 3) := by decide +kernel
theorem dX4_doDeed_113 : decode cX4_doDeed 113 = .ok (.getfield 106, 3) := by decide +kernel
theorem dX4_doDeed_116 : decode cX4_doDeed 116 = .ok (.iconst 4, 1) := by decide +kernel
theorem dX4_doDeed_117 : decode cX4_doDeed 117 = .ok (.aaload, 1) := by decide +kernel
theorem dX4_doDeed_118 : decode cX4_doDeed 118 = .ok (.iload 4, 2) := by decide +kernel
theorem dX4_doDeed_120 : decode cX4_doDeed 120 = .ok (.iload_n 2, 1) := by decide +kernel
theorem dX4_doDeed_121 : decode cX4_doDeed 121 = .ok (.bipush 100, 2) := by decide +kernel
theorem dX4_doDeed_123 : decode cX4_doDeed 123 = .ok (.invokestatic 300, 3) := by decide +kernel
theorem dX4_doDeed_126 : decode cX4_doDeed 126 = .ok (.iconst 1, 1) := by decide +kernel
theorem dX4_doDeed_127 : decode cX4_doDeed 127 = .ok (.iadd, 1) := by decide +kernel
theorem dX4_doDeed_128 : decode cX4_doDeed 128 = .ok (.iastore, 1) := by decide +kernel
theorem dX4_doDeed_129 : decode cX4_doDeed 129 = .ok (.iload_n 2, 1) := by decide +kernel
theorem dX4_doDeed_130 : decode cX4_doDeed 130 = .ok (.ireturn, 1) := by decide +kernel
theorem dX5_thrown_0 : decode cX5_thrown 0 = .ok (.aload_n 0, 1) := by decide +kernel
theorem dX5_thrown_1 : decode cX5_thrown 1 = .ok (.getfield 1, 3) := by decide +kernel
theorem dX5_thrown_4 : decode cX5_thrown 4 = .ok (.ireturn, 1) := by decide +kernel
theorem dX5_refuse_0 : decode cX5_refuse 0 = .ok (.aload_n 0, 1) := by decide +kernel
theorem dX5_refuse_1 : decode cX5_refuse 1 = .ok (.iconst 1, 1) := by decide +kernel
theorem dX5_refuse_2 : decode cX5_refuse 2 = .ok (.putfield 1, 3) := by decide +kernel
theorem dX5_refuse_5 : decode cX5_refuse 5 = .ok (.iconst 0, 1) := by decide +kernel
theorem dX5_refuse_6 : decode cX5_refuse 6 = .ok (.ireturn, 1) := by decide +kernel
theorem dX5_isIn_0 : decode cX5_isIn 0 = .ok (.iload_n 0, 1) := by decide +kernel
theorem dX5_isIn_1 : decode cX5_isIn 1 = .ok (.iload_n 1, 1) := by decide +kernel
theorem dX5_isIn_2 : decode cX5_isIn 2 = .ok (.if_icmp .lt 12, 3) := by decide +kernel
theorem dX5_isIn_5 : decode cX5_isIn 5 = .ok (.iload_n 0, 1) := by decide +kernel
theorem dX5_isIn_6 : decode cX5_isIn 6 = .ok (.iload_n 2, 1) := by decide +kernel
theorem dX5_isIn_7 : decode cX5_isIn 7 = .ok (.if_icmp .gt 7, 3) := by decide +kernel
theorem dX5_isIn_10 : decode cX5_isIn 10 = .ok (.iconst 1, 1) := by decide +kernel
theorem dX5_isIn_11 : decode cX5_isIn 11 = .ok (.goto 4, 3) := by decide +kernel
theorem dX5_isIn_14 : decode cX5_isIn 14 = .ok (.iconst 0, 1) := by decide +kernel
theorem dX5_isIn_15 : decode cX5_isIn 15 = .ok (.ireturn, 1) := by decide +kernel
theorem dX5_has_0 : decode cX5_has 0 = .ok (.iload_n 0, 1) := by decide +kernel
theorem dX5_has_1 : decode cX5_has 1 = .ok (.iload_n 1, 1) := by decide +kernel
theorem dX5_has_2 : decode cX5_has 2 = .ok (.ishr, 1) := by decide +kernel
theorem dX5_has_3 : decode cX5_has 3 = .ok (.iconst 1, 1) := by decide +kernel
theorem dX5_has_4 : decode cX5_has 4 = .ok (.iand, 1) := by decide +kernel
theorem dX5_has_5 : decode cX5_has 5 = .ok (.iconst 1, 1) := by decide +kernel
theorem dX5_has_6 : decode cX5_has 6 = .ok (.if_icmp .ne 7, 3) := by decide +kernel
theorem dX5_has_9 : decode cX5_has 9 = .ok (.iconst 1, 1) := by decide +kernel
theorem dX5_has_10 : decode cX5_has 10 = .ok (.goto 4, 3) := by decide +kernel
theorem dX5_has_13 : decode cX5_has 13 = .ok (.iconst 0, 1) := by decide +kernel
theorem dX5_has_14 : decode cX5_has 14 = .ok (.ireturn, 1) := by decide +kernel
theorem dX5_bits_0 : decode cX5_bits 0 = .ok (.iconst 0, 1) := by decide +kernel
theorem dX5_bits_1 : decode cX5_bits 1 = .ok (.istore_n 1, 1) := by decide +kernel
theorem dX5_bits_2 : decode cX5_bits 2 = .ok (.iload_n 0, 1) := by decide +kernel
theorem dX5_bits_3 : decode cX5_bits 3 = .ok (.istore_n 2, 1) := by decide +kernel
theorem dX5_bits_4 : decode cX5_bits 4 = .ok (.iload_n 2, 1) := by decide +kernel
theorem dX5_bits_5 : decode cX5_bits 5 = .ok (.ifCond .eq 15, 3) := by decide +kernel
theorem dX5_bits_8 : decode cX5_bits 8 = .ok (.iinc 1 1, 3) := by decide +kernel
theorem dX5_bits_11 : decode cX5_bits 11 = .ok (.iload_n 2, 1) := by decide +kernel
theorem dX5_bits_12 : decode cX5_bits 12 = .ok (.iload_n 2, 1) := by decide +kernel
theorem dX5_bits_13 : decode cX5_bits 13 = .ok (.iconst 1, 1) := by decide +kernel
theorem dX5_bits_14 : decode cX5_bits 14 = .ok (.isub, 1) := by decide +kernel
theorem dX5_bits_15 : decode cX5_bits 15 = .ok (.iand, 1) := by decide +kernel
theorem dX5_bits_16 : decode cX5_bits 16 = .ok (.istore_n 2, 1) := by decide +kernel
theorem dX5_bits_17 : decode cX5_bits 17 = .ok (.goto (-13), 3) := by decide +kernel
theorem dX5_bits_20 : decode cX5_bits 20 = .ok (.iload_n 1, 1) := by decide +kernel
theorem dX5_bits_21 : decode cX5_bits 21 = .ok (.ireturn, 1) := by decide +kernel
theorem dX5_lays_0 : decode cX5_lays 0 = .ok (.bipush 24, 2) := by decide +kernel
theorem dX5_lays_2 : decode cX5_lays 2 = .ok (.istore_n 2, 1) := by decide +kernel
theorem dX5_lays_3 : decode cX5_lays 3 = .ok (.iload_n 2, 1) := by decide +kernel
theorem dX5_lays_4 : decode cX5_lays 4 = .ok (.ifCond .lt 35, 3) := by decide +kernel
theorem dX5_lays_7 : decode cX5_lays 7 = .ok (.aload_n 0, 1) := by decide +kernel
theorem dX5_lays_8 : decode cX5_lays 8 = .ok (.getfield 7, 3) := by decide +kernel
theorem dX5_lays_11 : decode cX5_lays 11 = .ok (.aload_n 0, 1) := by decide +kernel
theorem dX5_lays_12 : decode cX5_lays 12 = .ok (.getfield 11, 3) := by decide +kernel
theorem dX5_lays_15 : decode cX5_lays 15 = .ok (.iload_n 1, 1) := by decide +kernel
theorem dX5_lays_16 : decode cX5_lays 16 = .ok (.iload_n 2, 1) := by decide +kernel
theorem dX5_lays_17 : decode cX5_lays 17 = .ok (.iushr, 1) := by decide +kernel
theorem dX5_lays_18 : decode cX5_lays 18 = .ok (.sipush 255, 3) := by decide +kernel
theorem dX5_lays_21 : decode cX5_lays 21 = .ok (.iand, 1) := by decide +kernel
theorem dX5_lays_22 : decode cX5_lays 22 = .ok (.iastore, 1) := by decide +kernel
theorem dX5_lays_23 : decode cX5_lays 23 = .ok (.aload_n 0, 1) := by decide +kernel
theorem dX5_lays_24 : decode cX5_lays 24 = .ok (.dup, 1) := by decide +kernel
theorem dX5_lays_25 : decode cX5_lays 25 = .ok (.getfield 11, 3) := by decide +kernel
theorem dX5_lays_28 : decode cX5_lays 28 = .ok (.iconst 1, 1) := by decide +kernel
theorem dX5_lays_29 : decode cX5_lays 29 = .ok (.iadd, 1) := by decide +kernel
theorem dX5_lays_30 : decode cX5_lays 30 = .ok (.putfield 11, 3) := by decide +kernel
theorem dX5_lays_33 : decode cX5_lays 33 = .ok (.iinc 2 (-8), 3) := by decide +kernel
theorem dX5_lays_36 : decode cX5_lays 36 = .ok (.goto (-33), 3) := by decide +kernel
theorem dX5_lays_39 : decode cX5_lays 39 = .ok (.return_, 1) := by decide +kernel
set_option maxRecDepth 20000 in
theorem ggX5_feed_X5_lays : GoodIn wsX5_feed wsX5_lays := goodIn_r _ [7, 8, 2, 9, 10, 11, 12, 13, 14, 15, 16, 17, 18, 19, 20, 21, 22, 23, 24, 25, 26, 27, 28, 29, 30, 31, 32] (by decide +kernel) (by decide +kernel)
set_option maxRecDepth 20000 in
theorem gX5_feed_X5_lays : GoodIn wsX5_feed (wsV RX5 14 RX5 yX5_lays wsX5_lays) := goodIn_app (goodIn_of _ (by decide +kernel)) ggX5_feed_X5_lays
theorem dX5_feed_0 : decode cX5_feed 0 = .ok (.aload_n 0, 1) := by decide +kernel
theorem dX5_feed_1 : decode cX5_feed 1 = .ok (.iconst 0, 1) := by decide +kernel
theorem dX5_feed_2 : decode cX5_feed 2 = .ok (.putfield 1, 3) := by decide +kernel
theorem dX5_feed_5 : decode cX5_feed 5 = .ok (.aload_n 0, 1) := by decide +kernel
theorem dX5_feed_6 : decode cX5_feed 6 = .ok (.getfield 11, 3) := by decide +kernel
theorem dX5_feed_9 : decode cX5_feed 9 = .ok (.bipush 20, 2) := by decide +kernel
theorem dX5_feed_11 : decode cX5_feed 11 = .ok (.iadd, 1) := by decide +kernel
theorem dX5_feed_12 : decode cX5_feed 12 = .ok (.sipush 540, 3) := by decide +kernel
theorem dX5_feed_15 : decode cX5_feed 15 = .ok (.if_icmp .le 5, 3) := by decide +kernel
theorem dX5_feed_18 : decode cX5_feed 18 = .ok (.iconst (-1), 1) := by decide +kernel
theorem dX5_feed_19 : decode cX5_feed 19 = .ok (.ireturn, 1) := by decide +kernel
theorem dX5_feed_20 : decode cX5_feed 20 = .ok (.aload_n 0, 1) := by decide +kernel
theorem dX5_feed_21 : decode cX5_feed 21 = .ok (.iload_n 1, 1) := by decide +kernel
theorem dX5_feed_22 : decode cX5_feed 22 = .ok (.invokevirtual 14, 3) := by decide +kernel
theorem dX5_feed_25 : decode cX5_feed 25 = .ok (.aload_n 0, 1) := by decide +kernel
theorem dX5_feed_26 : decode cX5_feed 26 = .ok (.iload_n 2, 1) := by decide +kernel
theorem dX5_feed_27 : decode cX5_feed 27 = .ok (.invokevirtual 14, 3) := by decide +kernel
theorem dX5_feed_30 : decode cX5_feed 30 = .ok (.aload_n 0, 1) := by decide +kernel
theorem dX5_feed_31 : decode cX5_feed 31 = .ok (.iload_n 3, 1) := by decide +kernel
theorem dX5_feed_32 : decode cX5_feed 32 = .ok (.invokevirtual 14, 3) := by decide +kernel
theorem dX5_feed_35 : decode cX5_feed 35 = .ok (.aload_n 0, 1) := by decide +kernel
theorem dX5_feed_36 : decode cX5_feed 36 = .ok (.iload 4, 2) := by decide +kernel
theorem dX5_feed_38 : decode cX5_feed 38 = .ok (.invokevirtual 14, 3) := by decide +kernel
theorem dX5_feed_41 : decode cX5_feed 41 = .ok (.aload_n 0, 1) := by decide +kernel
theorem dX5_feed_42 : decode cX5_feed 42 = .ok (.iload 5, 2) := by decide +kernel
theorem dX5_feed_44 : decode cX5_feed 44 = .ok (.invokevirtual 14, 3) := by decide +kernel
theorem dX5_feed_47 : decode cX5_feed 47 = .ok (.aload_n 0, 1) := by decide +kernel
theorem dX5_feed_48 : decode cX5_feed 48 = .ok (.getfield 11, 3) := by decide +kernel
theorem dX5_feed_51 : decode cX5_feed 51 = .ok (.ireturn, 1) := by decide +kernel
theorem dX5_end_0 : decode cX5_end 0 = .ok (.aload_n 0, 1) := by decide +kernel
theorem dX5_end_1 : decode cX5_end 1 = .ok (.iconst 0, 1) := by decide +kernel
theorem dX5_end_2 : decode cX5_end 2 = .ok (.putfield 1, 3) := by decide +kernel
theorem dX5_end_5 : decode cX5_end 5 = .ok (.iload_n 1, 1) := by decide +kernel
theorem dX5_end_6 : decode cX5_end 6 = .ok (.ifCond .lt 11, 3) := by decide +kernel
theorem dX5_end_9 : decode cX5_end 9 = .ok (.iload_n 1, 1) := by decide +kernel
theorem dX5_end_10 : decode cX5_end 10 = .ok (.aload_n 0, 1) := by decide +kernel
theorem dX5_end_11 : decode cX5_end 11 = .ok (.getfield 11, 3) := by decide +kernel
theorem dX5_end_14 : decode cX5_end 14 = .ok (.if_icmp .le 5, 3) := by decide +kernel
theorem dX5_end_17 : decode cX5_end 17 = .ok (.iconst 0, 1) := by decide +kernel
theorem dX5_end_18 : decode cX5_end 18 = .ok (.ireturn, 1) := by decide +kernel
theorem dX5_end_19 : decode cX5_end 19 = .ok (.aload_n 0, 1) := by decide +kernel
theorem dX5_end_20 : decode cX5_end 20 = .ok (.iload_n 1, 1) := by decide +kernel
theorem dX5_end_21 : decode cX5_end 21 = .ok (.putfield 11, 3) := by decide +kernel
theorem dX5_end_24 : decode cX5_end 24 = .ok (.iconst 1, 1) := by decide +kernel
theorem dX5_end_25 : decode cX5_end 25 = .ok (.ireturn, 1) := by decide +kernel
theorem dX5_tapeAt_0 : decode cX5_tapeAt 0 = .ok (.iload_n 1, 1) := by decide +kernel
theorem dX5_tapeAt_1 : decode cX5_tapeAt 1 = .ok (.aload_n 0, 1) := by decide +kernel
theorem dX5_tapeAt_2 : decode cX5_tapeAt 2 = .ok (.getfield 18, 3) := by decide +kernel
theorem dX5_tapeAt_5 : decode cX5_tapeAt 5 = .ok (.if_icmp .ge 12, 3) := by decide +kernel
theorem dX5_tapeAt_8 : decode cX5_tapeAt 8 = .ok (.aload_n 0, 1) := by decide +kernel
theorem dX5_tapeAt_9 : decode cX5_tapeAt 9 = .ok (.getfield 7, 3) := by decide +kernel
theorem dX5_tapeAt_12 : decode cX5_tapeAt 12 = .ok (.iload_n 1, 1) := by decide +kernel
theorem dX5_tapeAt_13 : decode cX5_tapeAt 13 = .ok (.iaload, 1) := by decide +kernel
theorem dX5_tapeAt_14 : decode cX5_tapeAt 14 = .ok (.goto 4, 3) := by decide +kernel
theorem dX5_tapeAt_17 : decode cX5_tapeAt 17 = .ok (.iconst 0, 1) := by decide +kernel
theorem dX5_tapeAt_18 : decode cX5_tapeAt 18 = .ok (.ireturn, 1) := by decide +kernel
theorem dX5_isDigit_0 : decode cX5_isDigit 0 = .ok (.iload_n 0, 1) := by decide +kernel
theorem dX5_isDigit_1 : decode cX5_isDigit 1 = .ok (.bipush 48, 2) := by decide +kernel
theorem dX5_isDigit_3 : decode cX5_isDigit 3 = .ok (.if_icmp .lt 13, 3) := by decide +kernel
theorem dX5_isDigit_6 : decode cX5_isDigit 6 = .ok (.iload_n 0, 1) := by decide +kernel
theorem dX5_isDigit_7 : decode cX5_isDigit 7 = .ok (.bipush 57, 2) := by decide +kernel
theorem dX5_isDigit_9 : decode cX5_isDigit 9 = .ok (.if_icmp .gt 7, 3) := by decide +kernel
theorem dX5_isDigit_12 : decode cX5_isDigit 12 = .ok (.iconst 1, 1) := by decide +kernel
theorem dX5_isDigit_13 : decode cX5_isDigit 13 = .ok (.goto 4, 3) := by decide +kernel
theorem dX5_isDigit_16 : decode cX5_isDigit 16 = .ok (.iconst 0, 1) := by decide +kernel
theorem dX5_isDigit_17 : decode cX5_isDigit 17 = .ok (.ireturn, 1) := by decide +kernel
theorem dX5_isLetter_0 : decode cX5_isLetter 0 = .ok (.iload_n 0, 1) := by decide +kernel
theorem dX5_isLetter_1 : decode cX5_isLetter 1 = .ok (.bipush 97, 2) := by decide +kernel
theorem dX5_isLetter_3 : decode cX5_isLetter 3 = .ok (.if_icmp .lt 13, 3) := by decide +kernel
theorem dX5_isLetter_6 : decode cX5_isLetter 6 = .ok (.iload_n 0, 1) := by decide +kernel
theorem dX5_isLetter_7 : decode cX5_isLetter 7 = .ok (.bipush 122, 2) := by decide +kernel
theorem dX5_isLetter_9 : decode cX5_isLetter 9 = .ok (.if_icmp .gt 7, 3) := by decide +kernel
theorem dX5_isLetter_12 : decode cX5_isLetter 12 = .ok (.iconst 1, 1) := by decide +kernel
theorem dX5_isLetter_13 : decode cX5_isLetter 13 = .ok (.goto 4, 3) := by decide +kernel
theorem dX5_isLetter_16 : decode cX5_isLetter 16 = .ok (.iconst 0, 1) := by decide +kernel
theorem dX5_isLetter_17 : decode cX5_isLetter 17 = .ok (.ireturn, 1) := by decide +kernel
set_option maxRecDepth 20000 in
theorem ggX5_next_X5_isLetter : GoodIn wsX5_next wsX5_isLetter := goodIn_r _ [10] (by decide +kernel) (by decide +kernel)
set_option maxRecDepth 20000 in
theorem gX5_next_X5_isLetter : GoodIn wsX5_next (va_wsS RX5 30 yX5_isLetter wsX5_isLetter) := goodIn_app (goodIn_of _ (by decide +kernel)) ggX5_next_X5_isLetter
set_option maxRecDepth 20000 in
theorem ggX5_next_X5_isDigit : GoodIn wsX5_next wsX5_isDigit := goodIn_r _ [13] (by decide +kernel) (by decide +kernel)
set_option maxRecDepth 20000 in
theorem gX5_next_X5_isDigit : GoodIn wsX5_next (va_wsS RX5 34 yX5_isDigit wsX5_isDigit) := goodIn_app (goodIn_of _ (by decide +kernel)) ggX5_next_X5_isDigit
set_option maxRecDepth 20000 in
theorem ggX5_next_X5_tapeAt : GoodIn wsX5_next wsX5_tapeAt := goodIn_r _ [17, 2, 3, 18, 19, 20, 21, 22, 23, 24, 25, 26, 27, 28, 29, 30, 31, 32, 33, 34, 35, 36, 37, 38, 39, 40, 41] (by decide +kernel) (by decide +kernel)
set_option maxRecDepth 20000 in
theorem gX5_next_X5_tapeAt : GoodIn wsX5_next (wsV RX5 40 RX5 yX5_tapeAt wsX5_tapeAt) := goodIn_app (goodIn_of _ (by decide +kernel)) ggX5_next_X5_tapeAt
theorem dX5_next_0 : decode cX5_next 0 = .ok (.aload_n 0, 1) := by decide +kernel
theorem dX5_next_1 : decode cX5_next 1 = .ok (.getfield 21, 3) := by decide +kernel
theorem dX5_next_4 : decode cX5_next 4 = .ok (.aload_n 0, 1) := by decide +kernel
theorem dX5_next_5 : decode cX5_next 5 = .ok (.getfield 18, 3) := by decide +kernel
theorem dX5_next_8 : decode cX5_next 8 = .ok (.if_icmp .ge 44, 3) := by decide +kernel
theorem dX5_next_11 : decode cX5_next 11 = .ok (.aload_n 0, 1) := by decide +kernel
theorem dX5_next_12 : decode cX5_next 12 = .ok (.getfield 7, 3) := by decide +kernel
theorem dX5_next_15 : decode cX5_next 15 = .ok (.aload_n 0, 1) := by decide +kernel
theorem dX5_next_16 : decode cX5_next 16 = .ok (.getfield 21, 3) := by decide +kernel
theorem dX5_next_19 : decode cX5_next 19 = .ok (.iaload, 1) := by decide +kernel
theorem dX5_next_20 : decode cX5_next 20 = .ok (.bipush 32, 2) := by decide +kernel
theorem dX5_next_22 : decode cX5_next 22 = .ok (.if_icmp .eq 17, 3) := by decide +kernel
theorem dX5_next_25 : decode cX5_next 25 = .ok (.aload_n 0, 1) := by decide +kernel
theorem dX5_next_26 : decode cX5_next 26 = .ok (.getfield 7, 3) := by decide +kernel
theorem dX5_next_29 : decode cX5_next 29 = .ok (.aload_n 0, 1) := by decide +kernel
theorem dX5_next_30 : decode cX5_next 30 = .ok (.getfield 21, 3) := by decide +kernel
theorem dX5_next_33 : decode cX5_next 33 = .ok (.iaload, 1) := by decide +kernel
theorem dX5_next_34 : decode cX5_next 34 = .ok (.bipush 10, 2) := by decide +kernel
theorem dX5_next_36 : decode cX5_next 36 = .ok (.if_icmp .ne 16, 3) := by decide +kernel
theorem dX5_next_39 : decode cX5_next 39 = .ok (.aload_n 0, 1) := by decide +kernel
theorem dX5_next_40 : decode cX5_next 40 = .ok (.dup, 1) := by decide +kernel
theorem dX5_next_41 : decode cX5_next 41 = .ok (.getfield 21, 3) := by decide +kernel
theorem dX5_next_44 : decode cX5_next 44 = .ok (.iconst 1, 1) := by decide +kernel
theorem dX5_next_45 : decode cX5_next 45 = .ok (.iadd, 1) := by decide +kernel
theorem dX5_next_46 : decode cX5_next 46 = .ok (.putfield 21, 3) := by decide +kernel
theorem dX5_next_49 : decode cX5_next 49 = .ok (.goto (-49), 3) := by decide +kernel
theorem dX5_next_52 : decode cX5_next 52 = .ok (.aload_n 0, 1) := by decide +kernel
theorem dX5_next_53 : decode cX5_next 53 = .ok (.aload_n 0, 1) := by decide +kernel
theorem dX5_next_54 : decode cX5_next 54 = .ok (.getfield 21, 3) := by decide +kernel
theorem dX5_next_57 : decode cX5_next 57 = .ok (.putfield 24, 3) := by decide +kernel
theorem dX5_next_60 : decode cX5_next 60 = .ok (.aload_n 0, 1) := by decide +kernel
theorem dX5_next_61 : decode cX5_next 61 = .ok (.getfield 18, 3) := by decide +kernel
theorem dX5_next_64 : decode cX5_next 64 = .ok (.sipush 500, 3) := by decide +kernel
theorem dX5_next_67 : decode cX5_next 67 = .ok (.if_icmp .le 26, 3) := by decide +kernel
theorem dX5_next_70 : decode cX5_next 70 = .ok (.aload_n 0, 1) := by decide +kernel
theorem dX5_next_71 : decode cX5_next 71 = .ok (.getfield 24, 3) := by decide +kernel
theorem dX5_next_74 : decode cX5_next 74 = .ok (.sipush 500, 3) := by decide +kernel
theorem dX5_next_77 : decode cX5_next 77 = .ok (.if_icmp .lt 16, 3) := by decide +kernel
theorem dX5_next_80 : decode cX5_next 80 = .ok (.aload_n 0, 1) := by decide +kernel
theorem dX5_next_81 : decode cX5_next 81 = .ok (.sipush 500, 3) := by decide +kernel
theorem dX5_next_84 : decode cX5_next 84 = .ok (.putfield 24, 3) := by decide +kernel
theorem dX5_next_87 : decode cX5_next 87 = .ok (.aload_n 0, 1) := by decide +kernel
theorem dX5_next_88 : decode cX5_next 88 = .ok (.iconst 1, 1) := by decide +kernel
theorem dX5_next_89 : decode cX5_next 89 = .ok (.putfield 27, 3) := by decide +kernel
theorem dX5_next_92 : decode cX5_next 92 = .ok (.return_, 1) := by decide +kernel
theorem dX5_next_93 : decode cX5_next 93 = .ok (.aload_n 0, 1) := by decide +kernel
theorem dX5_next_94 : decode cX5_next 94 = .ok (.getfield 21, 3) := by decide +kernel
theorem dX5_next_97 : decode cX5_next 97 = .ok (.aload_n 0, 1) := by decide +kernel
theorem dX5_next_98 : decode cX5_next 98 = .ok (.getfield 18, 3) := by decide +kernel
theorem dX5_next_101 : decode cX5_next 101 = .ok (.if_icmp .lt 9, 3) := by decide +kernel
theorem dX5_next_104 : decode cX5_next 104 = .ok (.aload_n 0, 1) := by decide +kernel
theorem dX5_next_105 : decode cX5_next 105 = .ok (.iconst 0, 1) := by decide +kernel
theorem dX5_next_106 : decode cX5_next 106 = .ok (.putfield 27, 3) := by decide +kernel
theorem dX5_next_109 : decode cX5_next 109 = .ok (.return_, 1) := by decide +kernel
theorem dX5_next_110 : decode cX5_next 110 = .ok (.aload_n 0, 1) := by decide +kernel
theorem dX5_next_111 : decode cX5_next 111 = .ok (.getfield 7, 3) := by decide +kernel
theorem dX5_next_114 : decode cX5_next 114 = .ok (.aload_n 0, 1) := by decide +kernel
theorem dX5_next_115 : decode cX5_next 115 = .ok (.getfield 21, 3) := by decide +kernel
theorem dX5_next_118 : decode cX5_next 118 = .ok (.iaload, 1) := by decide +kernel
theorem dX5_next_119 : decode cX5_next 119 = .ok (.istore_n 1, 1) := by decide +kernel
theorem dX5_next_120 : decode cX5_next 120 = .ok (.iload_n 1, 1) := by decide +kernel
theorem dX5_next_121 : decode cX5_next 121 = .ok (.invokestatic 30, 3) := by decide +kernel
theorem dX5_next_124 : decode cX5_next 124 = .ok (.ifCond .ne 36, 3) := by decide +kernel
theorem dX5_next_127 : decode cX5_next 127 = .ok (.iload_n 1, 1) := by decide +kernel
theorem dX5_next_128 : decode cX5_next 128 = .ok (.invokestatic 34, 3) := by decide +kernel
theorem dX5_next_131 : decode cX5_next 131 = .ok (.ifCond .ne 29, 3) := by decide +kernel
theorem dX5_next_134 : decode cX5_next 134 = .ok (.aload_n 0, 1) := by decide +kernel
theorem dX5_next_135 : decode cX5_next 135 = .ok (.iload_n 1, 1) := by decide +kernel
theorem dX5_next_136 : decode cX5_next 136 = .ok (.bipush 59, 2) := by decide +kernel
theorem dX5_next_138 : decode cX5_next 138 = .ok (.if_icmp .ne 7, 3) := by decide +kernel
theorem dX5_next_141 : decode cX5_next 141 = .ok (.iconst 4, 1) := by decide +kernel
theorem dX5_next_142 : decode cX5_next 142 = .ok (.goto 4, 3) := by decide +kernel
theorem dX5_next_145 : decode cX5_next 145 = .ok (.iconst 1, 1) := by decide +kernel
theorem dX5_next_146 : decode cX5_next 146 = .ok (.putfield 27, 3) := by decide +kernel
theorem dX5_next_149 : decode cX5_next 149 = .ok (.aload_n 0, 1) := by decide +kernel
theorem dX5_next_150 : decode cX5_next 150 = .ok (.dup, 1) := by decide +kernel
theorem dX5_next_151 : decode cX5_next 151 = .ok (.getfield 21, 3) := by decide +kernel
theorem dX5_next_154 : decode cX5_next 154 = .ok (.iconst 1, 1) := by decide +kernel
theorem dX5_next_155 : decode cX5_next 155 = .ok (.iadd, 1) := by decide +kernel
theorem dX5_next_156 : decode cX5_next 156 = .ok (.putfield 21, 3) := by decide +kernel
theorem dX5_next_159 : decode cX5_next 159 = .ok (.return_, 1) := by decide +kernel
theorem dX5_next_160 : decode cX5_next 160 = .ok (.iload_n 1, 1) := by decide +kernel
theorem dX5_next_161 : decode cX5_next 161 = .ok (.invokestatic 30, 3) := by decide +kernel
theorem dX5_next_164 : decode cX5_next 164 = .ok (.istore_n 2, 1) := by decide +kernel
theorem dX5_next_165 : decode cX5_next 165 = .ok (.iconst 1, 1) := by decide +kernel
theorem dX5_next_166 : decode cX5_next 166 = .ok (.istore_n 3, 1) := by decide +kernel
theorem dX5_next_167 : decode cX5_next 167 = .ok (.aload_n 0, 1) := by decide +kernel
theorem dX5_next_168 : decode cX5_next 168 = .ok (.iconst 0, 1) := by decide +kernel
theorem dX5_next_169 : decode cX5_next 169 = .ok (.putfield 37, 3) := by decide +kernel
theorem dX5_next_172 : decode cX5_next 172 = .ok (.aload_n 0, 1) := by decide +kernel
theorem dX5_next_173 : decode cX5_next 173 = .ok (.aload_n 0, 1) := by decide +kernel
theorem dX5_next_174 : decode cX5_next 174 = .ok (.getfield 21, 3) := by decide +kernel
theorem dX5_next_177 : decode cX5_next 177 = .ok (.invokevirtual 40, 3) := by decide +kernel
theorem dX5_next_180 : decode cX5_next 180 = .ok (.invokestatic 30, 3) := by decide +kernel
theorem dX5_next_183 : decode cX5_next 183 = .ok (.ifCond .ne 17, 3) := by decide +kernel
theorem dX5_next_186 : decode cX5_next 186 = .ok (.aload_n 0, 1) := by decide +kernel
theorem dX5_next_187 : decode cX5_next 187 = .ok (.aload_n 0, 1) := by decide +kernel
theorem dX5_next_188 : decode cX5_next 188 = .ok (.getfield 21, 3) := by decide +kernel
theorem dX5_next_191 : decode cX5_next 191 = .ok (.invokevirtual 40, 3) := by decide +kernel
theorem dX5_next_194 : decode cX5_next 194 = .ok (.invokestatic 34, 3) := by decide +kernel
theorem dX5_next_197 : decode cX5_next 197 = .ok (.ifCond .eq 76, 3) := by decide +kernel
theorem dX5_next_200 : decode cX5_next 200 = .ok (.aload_n 0, 1) := by decide +kernel
theorem dX5_next_201 : decode cX5_next 201 = .ok (.getfield 7, 3) := by decide +kernel
theorem dX5_next_204 : decode cX5_next 204 = .ok (.aload_n 0, 1) := by decide +kernel
theorem dX5_next_205 : decode cX5_next 205 = .ok (.getfield 21, 3) := by decide +kernel
theorem dX5_next_208 : decode cX5_next 208 = .ok (.iaload, 1) := by decide +kernel
theorem dX5_next_209 : decode cX5_next 209 = .ok (.istore 4, 2) := by decide +kernel
theorem dX5_next_211 : decode cX5_next 211 = .ok (.iload_n 3, 1) := by decide +kernel
theorem dX5_next_212 : decode cX5_next 212 = .ok (.ifCond .eq 16, 3) := by decide +kernel
theorem dX5_next_215 : decode cX5_next 215 = .ok (.iload 4, 2) := by decide +kernel
theorem dX5_next_217 : decode cX5_next 217 = .ok (.invokestatic 30, 3) := by decide +kernel
theorem dX5_next_220 : decode cX5_next 220 = .ok (.iload_n 2, 1) := by decide +kernel
theorem dX5_next_221 : decode cX5_next 221 = .ok (.if_icmp .ne 7, 3) := by decide +kernel
theorem dX5_next_224 : decode cX5_next 224 = .ok (.iconst 1, 1) := by decide +kernel
theorem dX5_next_225 : decode cX5_next 225 = .ok (.goto 4, 3) := by decide +kernel
theorem dX5_next_228 : decode cX5_next 228 = .ok (.iconst 0, 1) := by decide +kernel
theorem dX5_next_229 : decode cX5_next 229 = .ok (.istore_n 3, 1) := by decide +kernel
theorem dX5_next_230 : decode cX5_next 230 = .ok (.aload_n 0, 1) := by decide +kernel
theorem dX5_next_231 : decode cX5_next 231 = .ok (.getfield 21, 3) := by decide +kernel
theorem dX5_next_234 : decode cX5_next 234 = .ok (.aload_n 0, 1) := by decide +kernel
theorem dX5_next_235 : decode cX5_next 235 = .ok (.getfield 24, 3) := by decide +kernel
theorem dX5_next_238 : decode cX5_next 238 = .ok (.isub, 1) := by decide +kernel
theorem dX5_next_239 : decode cX5_next 239 = .ok (.iconst 3, 1) := by decide +kernel
theorem dX5_next_240 : decode cX5_next 240 = .ok (.if_icmp .ge 20, 3) := by decide +kernel
theorem dX5_next_243 : decode cX5_next 243 = .ok (.aload_n 0, 1) := by decide +kernel
theorem dX5_next_244 : decode cX5_next 244 = .ok (.bipush 10, 2) := by decide +kernel
theorem dX5_next_246 : decode cX5_next 246 = .ok (.aload_n 0, 1) := by decide +kernel
theorem dX5_next_247 : decode cX5_next 247 = .ok (.getfield 37, 3) := by decide +kernel
theorem dX5_next_250 : decode cX5_next 250 = .ok (.imul, 1) := by decide +kernel
theorem dX5_next_251 : decode cX5_next 251 = .ok (.iload 4, 2) := by decide +kernel
theorem dX5_next_253 : decode cX5_next 253 = .ok (.iadd, 1) := by decide +kernel
theorem dX5_next_254 : decode cX5_next 254 = .ok (.bipush 48, 2) := by decide +kernel
theorem dX5_next_256 : decode cX5_next 256 = .ok (.isub, 1) := by decide +kernel
theorem dX5_next_257 : decode cX5_next 257 = .ok (.putfield 37, 3) := by decide +kernel
theorem dX5_next_260 : decode cX5_next 260 = .ok (.aload_n 0, 1) := by decide +kernel
theorem dX5_next_261 : decode cX5_next 261 = .ok (.dup, 1) := by decide +kernel
theorem dX5_next_262 : decode cX5_next 262 = .ok (.getfield 21, 3) := by decide +kernel
theorem dX5_next_265 : decode cX5_next 265 = .ok (.iconst 1, 1) := by decide +kernel
theorem dX5_next_266 : decode cX5_next 266 = .ok (.iadd, 1) := by decide +kernel
theorem dX5_next_267 : decode cX5_next 267 = .ok (.putfield 21, 3) := by decide +kernel
theorem dX5_next_270 : decode cX5_next 270 = .ok (.goto (-98), 3) := by decide +kernel
theorem dX5_next_273 : decode cX5_next 273 = .ok (.aload_n 0, 1) := by decide +kernel
theorem dX5_next_274 : decode cX5_next 274 = .ok (.iload_n 3, 1) := by decide +kernel
theorem dX5_next_275 : decode cX5_next 275 = .ok (.ifCond .eq 20, 3) := by decide +kernel
theorem dX5_next_278 : decode cX5_next 278 = .ok (.iload_n 2, 1) := by decide +kernel
theorem dX5_next_279 : decode cX5_next 279 = .ok (.ifCond .ne 20, 3) := by decide +kernel
theorem dX5_next_282 : decode cX5_next 282 = .ok (.aload_n 0, 1) := by decide +kernel
theorem dX5_next_283 : decode cX5_next 283 = .ok (.getfield 21, 3) := by decide +kernel
theorem dX5_next_286 : decode cX5_next 286 = .ok (.aload_n 0, 1) := by decide +kernel
theorem dX5_next_287 : decode cX5_next 287 = .ok (.getfield 24, 3) := by decide +kernel
theorem dX5_next_290 : decode cX5_next 290 = .ok (.isub, 1) := by decide +kernel
theorem dX5_next_291 : decode cX5_next 291 = .ok (.iconst 3, 1) := by decide +kernel
theorem dX5_next_292 : decode cX5_next 292 = .ok (.if_icmp .le 7, 3) := by decide +kernel
theorem dX5_next_295 : decode cX5_next 295 = .ok (.iconst 1, 1) := by decide +kernel
theorem dX5_next_296 : decode cX5_next 296 = .ok (.goto 12, 3) := by decide +kernel
theorem dX5_next_299 : decode cX5_next 299 = .ok (.iload_n 2, 1) := by decide +kernel
theorem dX5_next_300 : decode cX5_next 300 = .ok (.ifCond .eq 7, 3) := by decide +kernel
theorem dX5_next_303 : decode cX5_next 303 = .ok (.iconst 2, 1) := by decide +kernel
theorem dX5_next_304 : decode cX5_next 304 = .ok (.goto 4, 3) := by decide +kernel
theorem dX5_next_307 : decode cX5_next 307 = .ok (.iconst 3, 1) := by decide +kernel
theorem dX5_next_308 : decode cX5_next 308 = .ok (.putfield 27, 3) := by decide +kernel
theorem dX5_next_311 : decode cX5_next 311 = .ok (.return_, 1) := by decide +kernel
theorem dX5_isWord_0 : decode cX5_isWord 0 = .ok (.iload 4, 2) := by decide +kernel
theorem dX5_isWord_2 : decode cX5_isWord 2 = .ok (.ifCond .ne 7, 3) := by decide +kernel
theorem dX5_isWord_5 : decode cX5_isWord 5 = .ok (.iconst 3, 1) := by decide +kernel
theorem dX5_isWord_6 : decode cX5_isWord 6 = .ok (.goto 14, 3) := by decide +kernel
theorem dX5_isWord_9 : decode cX5_isWord 9 = .ok (.iload 5, 2) := by decide +kernel
theorem dX5_isWord_11 : decode cX5_isWord 11 = .ok (.ifCond .ne 7, 3) := by decide +kernel
theorem dX5_isWord_14 : decode cX5_isWord 14 = .ok (.iconst 4, 1) := by decide +kernel
theorem dX5_isWord_15 : decode cX5_isWord 15 = .ok (.goto 5, 3) := by decide +kernel
theorem dX5_isWord_18 : decode cX5_isWord 18 = .ok (.bipush 6, 2) := by decide +kernel
theorem dX5_isWord_20 : decode cX5_isWord 20 = .ok (.istore 7, 2) := by decide +kernel
theorem dX5_isWord_22 : decode cX5_isWord 22 = .ok (.aload_n 0, 1) := by decide +kernel
theorem dX5_isWord_23 : decode cX5_isWord 23 = .ok (.getfield 27, 3) := by decide +kernel
theorem dX5_isWord_26 : decode cX5_isWord 26 = .ok (.iconst 2, 1) := by decide +kernel
theorem dX5_isWord_27 : decode cX5_isWord 27 = .ok (.if_icmp .ne 17, 3) := by decide +kernel
theorem dX5_isWord_30 : decode cX5_isWord 30 = .ok (.aload_n 0, 1) := by decide +kernel
theorem dX5_isWord_31 : decode cX5_isWord 31 = .ok (.getfield 21, 3) := by decide +kernel
theorem dX5_isWord_34 : decode cX5_isWord 34 = .ok (.aload_n 0, 1) := by decide +kernel
theorem dX5_isWord_35 : decode cX5_isWord 35 = .ok (.getfield 24, 3) := by decide +kernel
theorem dX5_isWord_38 : decode cX5_isWord 38 = .ok (.isub, 1) := by decide +kernel
theorem dX5_isWord_39 : decode cX5_isWord 39 = .ok (.iload 7, 2) := by decide +kernel
theorem dX5_isWord_41 : decode cX5_isWord 41 = .ok (.if_icmp .eq 5, 3) := by decide +kernel
theorem dX5_isWord_44 : decode cX5_isWord 44 = .ok (.iconst 0, 1) := by decide +kernel
theorem dX5_isWord_45 : decode cX5_isWord 45 = .ok (.ireturn, 1) := by decide +kernel
theorem dX5_isWord_46 : decode cX5_isWord 46 = .ok (.iconst 0, 1) := by decide +kernel
theorem dX5_isWord_47 : decode cX5_isWord 47 = .ok (.istore 8, 2) := by decide +kernel
theorem dX5_isWord_49 : decode cX5_isWord 49 = .ok (.iload 8, 2) := by decide +kernel
theorem dX5_isWord_51 : decode cX5_isWord 51 = .ok (.iload 7, 2) := by decide +kernel
theorem dX5_isWord_53 : decode cX5_isWord 53 = .ok (.if_icmp .ge 79, 3) := by decide +kernel
theorem dX5_isWord_56 : decode cX5_isWord 56 = .ok (.aload_n 0, 1) := by decide +kernel
theorem dX5_isWord_57 : decode cX5_isWord 57 = .ok (.getfield 7, 3) := by decide +kernel
theorem dX5_isWord_60 : decode cX5_isWord 60 = .ok (.aload_n 0, 1) := by decide +kernel
theorem dX5_isWord_61 : decode cX5_isWord 61 = .ok (.getfield 24, 3) := by decide +kernel
theorem dX5_isWord_64 : decode cX5_isWord 64 = .ok (.iload 8, 2) := by decide +kernel
theorem dX5_isWord_66 : decode cX5_isWord 66 = .ok (.iadd, 1) := by decide +kernel
theorem dX5_isWord_67 : decode cX5_isWord 67 = .ok (.iaload, 1) := by decide +kernel
theorem dX5_isWord_68 : decode cX5_isWord 68 = .ok (.iload 8, 2) := by decide +kernel
theorem dX5_isWord_70 : decode cX5_isWord 70 = .ok (.ifCond .ne 7, 3) := by decide +kernel
theorem dX5_isWord_73 : decode cX5_isWord 73 = .ok (.iload_n 1, 1) := by decide +kernel
theorem dX5_isWord_74 : decode cX5_isWord 74 = .ok (.goto 47, 3) := by decide +kernel
theorem dX5_isWord_77 : decode cX5_isWord 77 = .ok (.iload 8, 2) := by decide +kernel
theorem dX5_isWord_79 : decode cX5_isWord 79 = .ok (.iconst 1, 1) := by decide +kernel
theorem dX5_isWord_80 : decode cX5_isWord 80 = .ok (.if_icmp .ne 7, 3) := by decide +kernel
theorem dX5_isWord_83 : decode cX5_isWord 83 = .ok (.iload_n 2, 1) := by decide +kernel
theorem dX5_isWord_84 : decode cX5_isWord 84 = .ok (.goto 37, 3) := by decide +kernel
theorem dX5_isWord_87 : decode cX5_isWord 87 = .ok (.iload 8, 2) := by decide +kernel
theorem dX5_isWord_89 : decode cX5_isWord 89 = .ok (.iconst 2, 1) := by decide +kernel
theorem dX5_isWord_90 : decode cX5_isWord 90 = .ok (.if_icmp .ne 7, 3) := by decide +kernel
theorem dX5_isWord_93 : decode cX5_isWord 93 = .ok (.iload_n 3, 1) := by decide +kernel
theorem dX5_isWord_94 : decode cX5_isWord 94 = .ok (.goto 27, 3) := by decide +kernel
theorem dX5_isWord_97 : decode cX5_isWord 97 = .ok (.iload 8, 2) := by decide +kernel
theorem dX5_isWord_99 : decode cX5_isWord 99 = .ok (.iconst 3, 1) := by decide +kernel
theorem dX5_isWord_100 : decode cX5_isWord 100 = .ok (.if_icmp .ne 8, 3) := by decide +kernel
theorem dX5_isWord_103 : decode cX5_isWord 103 = .ok (.iload 4, 2) := by decide +kernel
theorem dX5_isWord_105 : decode cX5_isWord 105 = .ok (.goto 16, 3) := by decide +kernel
theorem dX5_isWord_108 : decode cX5_isWord 108 = .ok (.iload 8, 2) := by decide +kernel
theorem dX5_isWord_110 : decode cX5_isWord 110 = .ok (.iconst 4, 1) := by decide +kernel
theorem dX5_isWord_111 : decode cX5_isWord 111 = .ok (.if_icmp .ne 8, 3) := by decide +kernel
theorem dX5_isWord_114 : decode cX5_isWord 114 = .ok (.iload 5, 2) := by decide +kernel
theorem dX5_isWord_116 : decode cX5_isWord 116 = .ok (.goto 5, 3) := by decide +kernel
theorem dX5_isWord_119 : decode cX5_isWord 119 = .ok (.iload 6, 2) := by decide +kernel
theorem dX5_isWord_121 : decode cX5_isWord 121 = .ok (.if_icmp .eq 5, 3) := by decide +kernel
theorem dX5_isWord_124 : decode cX5_isWord 124 = .ok (.iconst 0, 1) := by decide +kernel
theorem dX5_isWord_125 : decode cX5_isWord 125 = .ok (.ireturn, 1) := by decide +kernel
theorem dX5_isWord_126 : decode cX5_isWord 126 = .ok (.iinc 8 1, 3) := by decide +kernel
theorem dX5_isWord_129 : decode cX5_isWord 129 = .ok (.goto (-80), 3) := by decide +kernel
theorem dX5_isWord_132 : decode cX5_isWord 132 = .ok (.iconst 1, 1) := by decide +kernel
theorem dX5_isWord_133 : decode cX5_isWord 133 = .ok (.ireturn, 1) := by decide +kernel
theorem dX5_bad_0 : decode cX5_bad 0 = .ok (.aload_n 0, 1) := by decide +kernel
theorem dX5_bad_1 : decode cX5_bad 1 = .ok (.aload_n 0, 1) := by decide +kernel
theorem dX5_bad_2 : decode cX5_bad 2 = .ok (.getfield 27, 3) := by decide +kernel
theorem dX5_bad_5 : decode cX5_bad 5 = .ok (.iconst 1, 1) := by decide +kernel
theorem dX5_bad_6 : decode cX5_bad 6 = .ok (.if_icmp .ne 7, 3) := by decide +kernel
theorem dX5_bad_9 : decode cX5_bad 9 = .ok (.iconst 1, 1) := by decide +kernel
theorem dX5_bad_10 : decode cX5_bad 10 = .ok (.goto 4, 3) := by decide +kernel
theorem dX5_bad_13 : decode cX5_bad 13 = .ok (.iload_n 1, 1) := by decide +kernel
theorem dX5_bad_14 : decode cX5_bad 14 = .ok (.putfield 44, 3) := by decide +kernel
theorem dX5_bad_17 : decode cX5_bad 17 = .ok (.aload_n 0, 1) := by decide +kernel
theorem dX5_bad_18 : decode cX5_bad 18 = .ok (.aload_n 0, 1) := by decide +kernel
theorem dX5_bad_19 : decode cX5_bad 19 = .ok (.getfield 24, 3) := by decide +kernel
theorem dX5_bad_22 : decode cX5_bad 22 = .ok (.putfield 47, 3) := by decide +kernel
theorem dX5_bad_25 : decode cX5_bad 25 = .ok (.iconst 0, 1) := by decide +kernel
theorem dX5_bad_26 : decode cX5_bad 26 = .ok (.ireturn, 1) := by decide +kernel
theorem dX5_init_0 : decode cX5_init 0 = .ok (.aload_n 0, 1) := by decide +kernel
theorem dX5_init_1 : decode cX5_init 1 = .ok (.invokespecial 50, 3) := by decide +kernel
theorem dX5_init_4 : decode cX5_init 4 = .ok (.aload_n 0, 1) := by decide +kernel
theorem dX5_init_5 : decode cX5_init 5 = .ok (.sipush 540, 3) := by decide +kernel
theorem dX5_init_8 : decode cX5_init 8 = .ok (.newarray .int, 2) := by decide +kernel
theorem dX5_init_10 : decode cX5_init 10 = .ok (.putfield 7, 3) := by decide +kernel
theorem dX5_init_13 : decode cX5_init 13 = .ok (.aload_n 0, 1) := by decide +kernel
theorem dX5_init_14 : decode cX5_init 14 = .ok (.sipush 1289, 3) := by decide +kernel
theorem dX5_init_17 : decode cX5_init 17 = .ok (.newarray .int, 2) := by decide +kernel
theorem dX5_init_19 : decode cX5_init 19 = .ok (.putfield 56, 3) := by decide +kernel
theorem dX5_init_22 : decode cX5_init 22 = .ok (.aload_n 0, 1) := by decide +kernel
theorem dX5_init_23 : decode cX5_init 23 = .ok (.sipush 1289, 3) := by decide +kernel
theorem dX5_init_26 : decode cX5_init 26 = .ok (.newarray .int, 2) := by decide +kernel
theorem dX5_init_28 : decode cX5_init 28 = .ok (.putfield 59, 3) := by decide +kernel
theorem dX5_init_31 : decode cX5_init 31 = .ok (.aload_n 0, 1) := by decide +kernel
theorem dX5_init_32 : decode cX5_init 32 = .ok (.sipush 2578, 3) := by decide +kernel
theorem dX5_init_35 : decode cX5_init 35 = .ok (.newarray .int, 2) := by decide +kernel
theorem dX5_init_37 : decode cX5_init 37 = .ok (.putfield 62, 3) := by decide +kernel
theorem dX5_init_40 : decode cX5_init 40 = .ok (.aload_n 0, 1) := by decide +kernel
theorem dX5_init_41 : decode cX5_init 41 = .ok (.sipush 10312, 3) := by decide +kernel
theorem dX5_init_44 : decode cX5_init 44 = .ok (.newarray .int, 2) := by decide +kernel
theorem dX5_init_46 : decode cX5_init 46 = .ok (.putfield 65, 3) := by decide +kernel
theorem dX5_init_49 : decode cX5_init 49 = .ok (.aload_n 0, 1) := by decide +kernel
theorem dX5_init_50 : decode cX5_init 50 = .ok (.iconst 2, 1) := by decide +kernel
theorem dX5_init_51 : decode cX5_init 51 = .ok (.newarray .boolean, 2) := by decide +kernel
theorem dX5_init_53 : decode cX5_init 53 = .ok (.putfield 68, 3) := by decide +kernel
theorem dX5_init_56 : decode cX5_init 56 = .ok (.aload_n 0, 1) := by decide +kernel
theorem dX5_init_57 : decode cX5_init 57 = .ok (.sipush 256, 3) := by decide +kernel
theorem dX5_init_60 : decode cX5_init 60 = .ok (.newarray .int, 2) := by decide +kernel
theorem dX5_init_62 : decode cX5_init 62 = .ok (.putfield 72, 3) := by decide +kernel
theorem dX5_init_65 : decode cX5_init 65 = .ok (.aload_n 0, 1) := by decide +kernel
theorem dX5_init_66 : decode cX5_init 66 = .ok (.sipush 256, 3) := by decide +kernel
theorem dX5_init_69 : decode cX5_init 69 = .ok (.newarray .int, 2) := by decide +kernel
theorem dX5_init_71 : decode cX5_init 71 = .ok (.putfield 75, 3) := by decide +kernel
theorem dX5_init_74 : decode cX5_init 74 = .ok (.aload_n 0, 1) := by decide +kernel
theorem dX5_init_75 : decode cX5_init 75 = .ok (.sipush 2304, 3) := by decide +kernel
theorem dX5_init_78 : decode cX5_init 78 = .ok (.newarray .int, 2) := by decide +kernel
theorem dX5_init_80 : decode cX5_init 80 = .ok (.putfield 78, 3) := by decide +kernel
theorem dX5_init_83 : decode cX5_init 83 = .ok (.aload_n 0, 1) := by decide +kernel
theorem dX5_init_84 : decode cX5_init 84 = .ok (.sipush 256, 3) := by decide +kernel
theorem dX5_init_87 : decode cX5_init 87 = .ok (.newarray .int, 2) := by decide +kernel
theorem dX5_init_89 : decode cX5_init 89 = .ok (.putfield 81, 3) := by decide +kernel
theorem dX5_init_92 : decode cX5_init 92 = .ok (.aload_n 0, 1) := by decide +kernel
theorem dX5_init_93 : decode cX5_init 93 = .ok (.sipush 2304, 3) := by decide +kernel
theorem dX5_init_96 : decode cX5_init 96 = .ok (.newarray .int, 2) := by decide +kernel
theorem dX5_init_98 : decode cX5_init 98 = .ok (.putfield 84, 3) := by decide +kernel
theorem dX5_init_101 : decode cX5_init 101 = .ok (.aload_n 0, 1) := by decide +kernel
theorem dX5_init_102 : decode cX5_init 102 = .ok (.bipush 8, 2) := by decide +kernel
theorem dX5_init_104 : decode cX5_init 104 = .ok (.newarray .int, 2) := by decide +kernel
theorem dX5_init_106 : decode cX5_init 106 = .ok (.putfield 87, 3) := by decide +kernel
theorem dX5_init_109 : decode cX5_init 109 = .ok (.aload_n 0, 1) := by decide +kernel
theorem dX5_init_110 : decode cX5_init 110 = .ok (.sipush 256, 3) := by decide +kernel
theorem dX5_init_113 : decode cX5_init 113 = .ok (.newarray .int, 2) := by decide +kernel
theorem dX5_init_115 : decode cX5_init 115 = .ok (.putfield 90, 3) := by decide +kernel
theorem dX5_init_118 : decode cX5_init 118 = .ok (.return_, 1) := by decide +kernel
theorem dX5_copy_0 : decode cX5_copy 0 = .ok (.iconst 0, 1) := by decide +kernel
theorem dX5_copy_1 : decode cX5_copy 1 = .ok (.istore 4, 2) := by decide +kernel
theorem dX5_copy_3 : decode cX5_copy 3 = .ok (.iload 4, 2) := by decide +kernel
theorem dX5_copy_5 : decode cX5_copy 5 = .ok (.sipush 1289, 3) := by decide +kernel
theorem dX5_copy_8 : decode cX5_copy 8 = .ok (.if_icmp .ge 21, 3) := by decide +kernel
theorem dX5_copy_11 : decode cX5_copy 11 = .ok (.aload_n 2, 1) := by decide +kernel
theorem dX5_copy_12 : decode cX5_copy 12 = .ok (.iload_n 3, 1) := by decide +kernel
theorem dX5_copy_13 : decode cX5_copy 13 = .ok (.iload 4, 2) := by decide +kernel
theorem dX5_copy_15 : decode cX5_copy 15 = .ok (.iadd, 1) := by decide +kernel
theorem dX5_copy_16 : decode cX5_copy 16 = .ok (.aload_n 0, 1) := by decide +kernel
theorem dX5_copy_17 : decode cX5_copy 17 = .ok (.iload_n 1, 1) := by decide +kernel
theorem dX5_copy_18 : decode cX5_copy 18 = .ok (.iload 4, 2) := by decide +kernel
theorem dX5_copy_20 : decode cX5_copy 20 = .ok (.iadd, 1) := by decide +kernel
theorem dX5_copy_21 : decode cX5_copy 21 = .ok (.iaload, 1) := by decide +kernel
theorem dX5_copy_22 : decode cX5_copy 22 = .ok (.iastore, 1) := by decide +kernel
theorem dX5_copy_23 : decode cX5_copy 23 = .ok (.iinc 4 1, 3) := by decide +kernel
theorem dX5_copy_26 : decode cX5_copy 26 = .ok (.goto (-23), 3) := by decide +kernel
theorem dX5_copy_29 : decode cX5_copy 29 = .ok (.return_, 1) := by decide +kernel
set_option maxRecDepth 20000 in
theorem ggX5_readThings_X5_next : GoodIn wsX5_readThings wsX5_next := goodIn_r _ [8, 9, 10, 11, 12, 1, 2, 13, 14, 7, 15, 16, 17, 18, 19, 20, 21, 22, 32, 33, 34, 35, 36, 37, 38, 39, 40, 41, 42, 43, 44, 45, 46, 47, 48, 49, 50, 51, 52, 53, 54, 55] (by decide +kernel) (by decide +kernel)
set_option maxRecDepth 20000 in
theorem gX5_readThings_X5_next : GoodIn wsX5_readThings (wsV RX5 93 RX5 yX5_next wsX5_next) := goodIn_app (goodIn_of _ (by decide +kernel)) ggX5_readThings_X5_next
set_option maxRecDepth 20000 in
theorem ggX5_readThings_X5_bad : GoodIn wsX5_readThings wsX5_bad := goodIn_r _ [26, 1, 27, 12, 28, 32, 33, 34, 35, 36, 37, 38, 39, 40, 41, 42, 43, 44, 45, 46, 47, 48, 49, 50, 51, 52, 53, 54, 55] (by decide +kernel) (by decide +kernel)
set_option maxRecDepth 20000 in
theorem gX5_readThings_X5_bad : GoodIn wsX5_readThings (wsV RX5 96 RX5 yX5_bad wsX5_bad) := goodIn_app (goodIn_of _ (by decide +kernel)) ggX5_readThings_X5_bad
set_option maxRecDepth 20000 in
theorem ggX5_readThings_X5_isIn : GoodIn wsX5_readThings wsX5_isIn := goodIn_r _ [31] (by decide +kernel) (by decide +kernel)
set_option maxRecDepth 20000 in
theorem gX5_readThings_X5_isIn : GoodIn wsX5_readThings (va_wsS RX5 99 yX5_isIn wsX5_isIn) := goodIn_app (goodIn_of _ (by decide +kernel)) ggX5_readThings_X5_isIn
theorem dX5_readThings_0 : decode cX5_readThings 0 = .ok (.aload_n 0, 1) := by decide +kernel
theorem dX5_readThings_1 : decode cX5_readThings 1 = .ok (.invokevirtual 93, 3) := by decide +kernel
theorem dX5_readThings_4 : decode cX5_readThings 4 = .ok (.aload_n 0, 1) := by decide +kernel
theorem dX5_readThings_5 : decode cX5_readThings 5 = .ok (.getfield 27, 3) := by decide +kernel
theorem dX5_readThings_8 : decode cX5_readThings 8 = .ok (.iconst 3, 1) := by decide +kernel
theorem dX5_readThings_9 : decode cX5_readThings 9 = .ok (.if_icmp .eq 9, 3) := by decide +kernel
theorem dX5_readThings_12 : decode cX5_readThings 12 = .ok (.aload_n 0, 1) := by decide +kernel
theorem dX5_readThings_13 : decode cX5_readThings 13 = .ok (.iconst 1, 1) := by decide +kernel
theorem dX5_readThings_14 : decode cX5_readThings 14 = .ok (.invokevirtual 96, 3) := by decide +kernel
theorem dX5_readThings_17 : decode cX5_readThings 17 = .ok (.ireturn, 1) := by decide +kernel
theorem dX5_readThings_18 : decode cX5_readThings 18 = .ok (.aload_n 0, 1) := by decide +kernel
theorem dX5_readThings_19 : decode cX5_readThings 19 = .ok (.getfield 37, 3) := by decide +kernel
theorem dX5_readThings_22 : decode cX5_readThings 22 = .ok (.iconst 1, 1) := by decide +kernel
theorem dX5_readThings_23 : decode cX5_readThings 23 = .ok (.bipush 8, 2) := by decide +kernel
theorem dX5_readThings_25 : decode cX5_readThings 25 = .ok (.invokestatic 99, 3) := by decide +kernel
theorem dX5_readThings_28 : decode cX5_readThings 28 = .ok (.ifCond .ne 9, 3) := by decide +kernel
theorem dX5_readThings_31 : decode cX5_readThings 31 = .ok (.aload_n 0, 1) := by decide +kernel
theorem dX5_readThings_32 : decode cX5_readThings 32 = .ok (.iconst 2, 1) := by decide +kernel
theorem dX5_readThings_33 : decode cX5_readThings 33 = .ok (.invokevirtual 96, 3) := by decide +kernel
theorem dX5_readThings_36 : decode cX5_readThings 36 = .ok (.ireturn, 1) := by decide +kernel
theorem dX5_readThings_37 : decode cX5_readThings 37 = .ok (.aload_n 0, 1) := by decide +kernel
theorem dX5_readThings_38 : decode cX5_readThings 38 = .ok (.getfield 59, 3) := by decide +kernel
theorem dX5_readThings_41 : decode cX5_readThings 41 = .ok (.iconst 0, 1) := by decide +kernel
theorem dX5_readThings_42 : decode cX5_readThings 42 = .ok (.aload_n 0, 1) := by decide +kernel
theorem dX5_readThings_43 : decode cX5_readThings 43 = .ok (.getfield 37, 3) := by decide +kernel
theorem dX5_readThings_46 : decode cX5_readThings 46 = .ok (.iastore, 1) := by decide +kernel
theorem dX5_readThings_47 : decode cX5_readThings 47 = .ok (.aload_n 0, 1) := by decide +kernel
theorem dX5_readThings_48 : decode cX5_readThings 48 = .ok (.invokevirtual 93, 3) := by decide +kernel
theorem dX5_readThings_51 : decode cX5_readThings 51 = .ok (.iconst 1, 1) := by decide +kernel
theorem dX5_readThings_52 : decode cX5_readThings 52 = .ok (.ireturn, 1) := by decide +kernel
set_option maxRecDepth 20000 in
theorem ggX5_letters_X5_has : GoodIn wsX5_letters wsX5_has := goodIn_r _ [8] (by decide +kernel) (by decide +kernel)
set_option maxRecDepth 20000 in
theorem gX5_letters_X5_has : GoodIn wsX5_letters (va_wsS RX5 103 yX5_has wsX5_has) := goodIn_app (goodIn_of _ (by decide +kernel)) ggX5_letters_X5_has
theorem dX5_letters_0 : decode cX5_letters 0 = .ok (.iconst 0, 1) := by decide +kernel
theorem dX5_letters_1 : decode cX5_letters 1 = .ok (.istore_n 1, 1) := by decide +kernel
theorem dX5_letters_2 : decode cX5_letters 2 = .ok (.aload_n 0, 1) := by decide +kernel
theorem dX5_letters_3 : decode cX5_letters 3 = .ok (.getfield 24, 3) := by decide +kernel
theorem dX5_letters_6 : decode cX5_letters 6 = .ok (.istore_n 2, 1) := by decide +kernel
theorem dX5_letters_7 : decode cX5_letters 7 = .ok (.iload_n 2, 1) := by decide +kernel
theorem dX5_letters_8 : decode cX5_letters 8 = .ok (.aload_n 0, 1) := by decide +kernel
theorem dX5_letters_9 : decode cX5_letters 9 = .ok (.getfield 21, 3) := by decide +kernel
theorem dX5_letters_12 : decode cX5_letters 12 = .ok (.if_icmp .ge 45, 3) := by decide +kernel
theorem dX5_letters_15 : decode cX5_letters 15 = .ok (.aload_n 0, 1) := by decide +kernel
theorem dX5_letters_16 : decode cX5_letters 16 = .ok (.getfield 7, 3) := by decide +kernel
theorem dX5_letters_19 : decode cX5_letters 19 = .ok (.iload_n 2, 1) := by decide +kernel
theorem dX5_letters_20 : decode cX5_letters 20 = .ok (.iaload, 1) := by decide +kernel
theorem dX5_letters_21 : decode cX5_letters 21 = .ok (.bipush 97, 2) := by decide +kernel
theorem dX5_letters_23 : decode cX5_letters 23 = .ok (.isub, 1) := by decide +kernel
theorem dX5_letters_24 : decode cX5_letters 24 = .ok (.istore_n 3, 1) := by decide +kernel
theorem dX5_letters_25 : decode cX5_letters 25 = .ok (.iload_n 3, 1) := by decide +kernel
theorem dX5_letters_26 : decode cX5_letters 26 = .ok (.aload_n 0, 1) := by decide +kernel
theorem dX5_letters_27 : decode cX5_letters 27 = .ok (.getfield 59, 3) := by decide +kernel
theorem dX5_letters_30 : decode cX5_letters 30 = .ok (.iconst 0, 1) := by decide +kernel
theorem dX5_letters_31 : decode cX5_letters 31 = .ok (.iaload, 1) := by decide +kernel
theorem dX5_letters_32 : decode cX5_letters 32 = .ok (.if_icmp .ge 11, 3) := by decide +kernel
theorem dX5_letters_35 : decode cX5_letters 35 = .ok (.iload_n 1, 1) := by decide +kernel
theorem dX5_letters_36 : decode cX5_letters 36 = .ok (.iload_n 3, 1) := by decide +kernel
theorem dX5_letters_37 : decode cX5_letters 37 = .ok (.invokestatic 103, 3) := by decide +kernel
theorem dX5_letters_40 : decode cX5_letters 40 = .ok (.ifCond .eq 5, 3) := by decide +kernel
theorem dX5_letters_43 : decode cX5_letters 43 = .ok (.iconst (-1), 1) := by decide +kernel
theorem dX5_letters_44 : decode cX5_letters 44 = .ok (.ireturn, 1) := by decide +kernel
theorem dX5_letters_45 : decode cX5_letters 45 = .ok (.iload_n 1, 1) := by decide +kernel
theorem dX5_letters_46 : decode cX5_letters 46 = .ok (.iconst 1, 1) := by decide +kernel
theorem dX5_letters_47 : decode cX5_letters 47 = .ok (.iload_n 3, 1) := by decide +kernel
theorem dX5_letters_48 : decode cX5_letters 48 = .ok (.ishl, 1) := by decide +kernel
theorem dX5_letters_49 : decode cX5_letters 49 = .ok (.ior, 1) := by decide +kernel
theorem dX5_letters_50 : decode cX5_letters 50 = .ok (.istore_n 1, 1) := by decide +kernel
theorem dX5_letters_51 : decode cX5_letters 51 = .ok (.iinc 2 1, 3) := by decide +kernel
theorem dX5_letters_54 : decode cX5_letters 54 = .ok (.goto (-47), 3) := by decide +kernel
theorem dX5_letters_57 : decode cX5_letters 57 = .ok (.iload_n 1, 1) := by decide +kernel
theorem dX5_letters_58 : decode cX5_letters 58 = .ok (.ireturn, 1) := by decide +kernel
set_option maxRecDepth 20000 in
theorem ggX5_readSet_X5_next : GoodIn wsX5_readSet wsX5_next := goodIn_r _ [8, 9, 10, 11, 12, 1, 3, 13, 14, 7, 15, 16, 17, 18, 19, 20, 21, 22, 39, 40, 41, 42, 43, 44, 45, 46, 47, 48, 49, 50, 51, 52, 53, 54, 55, 56, 57, 58, 59, 60, 61, 62] (by decide +kernel) (by decide +kernel)
set_option maxRecDepth 20000 in
theorem gX5_readSet_X5_next : GoodIn wsX5_readSet (wsV RX5 93 RX5 yX5_next wsX5_next) := goodIn_app (goodIn_of _ (by decide +kernel)) ggX5_readSet_X5_next
set_option maxRecDepth 20000 in
theorem ggX5_readSet_X5_bad : GoodIn wsX5_readSet wsX5_bad := goodIn_r _ [26, 1, 27, 12, 28, 39, 40, 41, 42, 43, 44, 45, 46, 47, 48, 49, 50, 51, 52, 53, 54, 55, 56, 57, 58, 59, 60, 61, 62] (by decide +kernel) (by decide +kernel)
set_option maxRecDepth 20000 in
theorem gX5_readSet_X5_bad : GoodIn wsX5_readSet (wsV RX5 96 RX5 yX5_bad wsX5_bad) := goodIn_app (goodIn_of _ (by decide +kernel)) ggX5_readSet_X5_bad
set_option maxRecDepth 20000 in
theorem ggX5_readSet_X5_letters : GoodIn wsX5_readSet wsX5_letters := goodIn_r _ [32, 12, 9, 11, 2, 33, 34, 7, 35, 39, 40, 41, 42, 43, 44, 45, 46, 47, 48, 49, 50, 51, 52, 53, 54, 55, 56, 57, 58, 59, 60, 61, 62] (by decide +kernel) (by decide +kernel)
set_option maxRecDepth 20000 in
theorem gX5_readSet_X5_letters : GoodIn wsX5_readSet (wsV RX5 107 RX5 yX5_letters wsX5_letters) := goodIn_app (goodIn_of _ (by decide +kernel)) ggX5_readSet_X5_letters
set_option maxRecDepth 20000 in
theorem ggX5_readSet_X5_isIn : GoodIn wsX5_readSet wsX5_isIn := goodIn_r _ [38] (by decide +kernel) (by decide +kernel)
set_option maxRecDepth 20000 in
theorem gX5_readSet_X5_isIn : GoodIn wsX5_readSet (va_wsS RX5 99 yX5_isIn wsX5_isIn) := goodIn_app (goodIn_of _ (by decide +kernel)) ggX5_readSet_X5_isIn
theorem dX5_readSet_0 : decode cX5_readSet 0 = .ok (.aload_n 0, 1) := by decide +kernel
theorem dX5_readSet_1 : decode cX5_readSet 1 = .ok (.invokevirtual 93, 3) := by decide +kernel
theorem dX5_readSet_4 : decode cX5_readSet 4 = .ok (.aload_n 0, 1) := by decide +kernel
theorem dX5_readSet_5 : decode cX5_readSet 5 = .ok (.getfield 27, 3) := by decide +kernel
theorem dX5_readSet_8 : decode cX5_readSet 8 = .ok (.iconst 2, 1) := by decide +kernel
theorem dX5_readSet_9 : decode cX5_readSet 9 = .ok (.if_icmp .eq 9, 3) := by decide +kernel
theorem dX5_readSet_12 : decode cX5_readSet 12 = .ok (.aload_n 0, 1) := by decide +kernel
theorem dX5_readSet_13 : decode cX5_readSet 13 = .ok (.iconst 1, 1) := by decide +kernel
theorem dX5_readSet_14 : decode cX5_readSet 14 = .ok (.invokevirtual 96, 3) := by decide +kernel
theorem dX5_readSet_17 : decode cX5_readSet 17 = .ok (.ireturn, 1) := by decide +kernel
theorem dX5_readSet_18 : decode cX5_readSet 18 = .ok (.aload_n 0, 1) := by decide +kernel
theorem dX5_readSet_19 : decode cX5_readSet 19 = .ok (.invokevirtual 107, 3) := by decide +kernel
theorem dX5_readSet_22 : decode cX5_readSet 22 = .ok (.istore_n 1, 1) := by decide +kernel
theorem dX5_readSet_23 : decode cX5_readSet 23 = .ok (.iload_n 1, 1) := by decide +kernel
theorem dX5_readSet_24 : decode cX5_readSet 24 = .ok (.iconst (-1), 1) := by decide +kernel
theorem dX5_readSet_25 : decode cX5_readSet 25 = .ok (.if_icmp .ne 9, 3) := by decide +kernel
theorem dX5_readSet_28 : decode cX5_readSet 28 = .ok (.aload_n 0, 1) := by decide +kernel
theorem dX5_readSet_29 : decode cX5_readSet 29 = .ok (.iconst 3, 1) := by decide +kernel
theorem dX5_readSet_30 : decode cX5_readSet 30 = .ok (.invokevirtual 96, 3) := by decide +kernel
theorem dX5_readSet_33 : decode cX5_readSet 33 = .ok (.ireturn, 1) := by decide +kernel
theorem dX5_readSet_34 : decode cX5_readSet 34 = .ok (.aload_n 0, 1) := by decide +kernel
theorem dX5_readSet_35 : decode cX5_readSet 35 = .ok (.getfield 59, 3) := by decide +kernel
theorem dX5_readSet_38 : decode cX5_readSet 38 = .ok (.iconst 1, 1) := by decide +kernel
theorem dX5_readSet_39 : decode cX5_readSet 39 = .ok (.iload_n 1, 1) := by decide +kernel
theorem dX5_readSet_40 : decode cX5_readSet 40 = .ok (.iadd, 1) := by decide +kernel
theorem dX5_readSet_41 : decode cX5_readSet 41 = .ok (.iaload, 1) := by decide +kernel
theorem dX5_readSet_42 : decode cX5_readSet 42 = .ok (.ifCond .le 9, 3) := by decide +kernel
theorem dX5_readSet_45 : decode cX5_readSet 45 = .ok (.aload_n 0, 1) := by decide +kernel
theorem dX5_readSet_46 : decode cX5_readSet 46 = .ok (.iconst 4, 1) := by decide +kernel
theorem dX5_readSet_47 : decode cX5_readSet 47 = .ok (.invokevirtual 96, 3) := by decide +kernel
theorem dX5_readSet_50 : decode cX5_readSet 50 = .ok (.ireturn, 1) := by decide +kernel
theorem dX5_readSet_51 : decode cX5_readSet 51 = .ok (.aload_n 0, 1) := by decide +kernel
theorem dX5_readSet_52 : decode cX5_readSet 52 = .ok (.getfield 59, 3) := by decide +kernel
theorem dX5_readSet_55 : decode cX5_readSet 55 = .ok (.iconst 1, 1) := by decide +kernel
theorem dX5_readSet_56 : decode cX5_readSet 56 = .ok (.iload_n 1, 1) := by decide +kernel
theorem dX5_readSet_57 : decode cX5_readSet 57 = .ok (.iadd, 1) := by decide +kernel
theorem dX5_readSet_58 : decode cX5_readSet 58 = .ok (.iconst 1, 1) := by decide +kernel
theorem dX5_readSet_59 : decode cX5_readSet 59 = .ok (.iastore, 1) := by decide +kernel
theorem dX5_readSet_60 : decode cX5_readSet 60 = .ok (.aload_n 0, 1) := by decide +kernel
theorem dX5_readSet_61 : decode cX5_readSet 61 = .ok (.invokevirtual 93, 3) := by decide +kernel
theorem dX5_readSet_64 : decode cX5_readSet 64 = .ok (.aload_n 0, 1) := by decide +kernel
theorem dX5_readSet_65 : decode cX5_readSet 65 = .ok (.getfield 27, 3) := by decide +kernel
theorem dX5_readSet_68 : decode cX5_readSet 68 = .ok (.iconst 3, 1) := by decide +kernel
theorem dX5_readSet_69 : decode cX5_readSet 69 = .ok (.if_icmp .eq 5, 3) := by decide +kernel
theorem dX5_readSet_72 : decode cX5_readSet 72 = .ok (.iconst 1, 1) := by decide +kernel
theorem dX5_readSet_73 : decode cX5_readSet 73 = .ok (.ireturn, 1) := by decide +kernel
theorem dX5_readSet_74 : decode cX5_readSet 74 = .ok (.aload_n 0, 1) := by decide +kernel
theorem dX5_readSet_75 : decode cX5_readSet 75 = .ok (.getfield 37, 3) := by decide +kernel
theorem dX5_readSet_78 : decode cX5_readSet 78 = .ok (.iconst 1, 1) := by decide +kernel
theorem dX5_readSet_79 : decode cX5_readSet 79 = .ok (.sipush 999, 3) := by decide +kernel
theorem dX5_readSet_82 : decode cX5_readSet 82 = .ok (.invokestatic 99, 3) := by decide +kernel
theorem dX5_readSet_85 : decode cX5_readSet 85 = .ok (.ifCond .ne 9, 3) := by decide +kernel
theorem dX5_readSet_88 : decode cX5_readSet 88 = .ok (.aload_n 0, 1) := by decide +kernel
theorem dX5_readSet_89 : decode cX5_readSet 89 = .ok (.iconst 2, 1) := by decide +kernel
theorem dX5_readSet_90 : decode cX5_readSet 90 = .ok (.invokevirtual 96, 3) := by decide +kernel
theorem dX5_readSet_93 : decode cX5_readSet 93 = .ok (.ireturn, 1) := by decide +kernel
theorem dX5_readSet_94 : decode cX5_readSet 94 = .ok (.aload_n 0, 1) := by decide +kernel
theorem dX5_readSet_95 : decode cX5_readSet 95 = .ok (.getfield 59, 3) := by decide +kernel
theorem dX5_readSet_98 : decode cX5_readSet 98 = .ok (.iconst 1, 1) := by decide +kernel
theorem dX5_readSet_99 : decode cX5_readSet 99 = .ok (.iload_n 1, 1) := by decide +kernel
theorem dX5_readSet_100 : decode cX5_readSet 100 = .ok (.iadd, 1) := by decide +kernel
theorem dX5_readSet_101 : decode cX5_readSet 101 = .ok (.aload_n 0, 1) := by decide +kernel
theorem dX5_readSet_102 : decode cX5_readSet 102 = .ok (.getfield 37, 3) := by decide +kernel
theorem dX5_readSet_105 : decode cX5_readSet 105 = .ok (.iastore, 1) := by decide +kernel
theorem dX5_readSet_106 : decode cX5_readSet 106 = .ok (.aload_n 0, 1) := by decide +kernel
theorem dX5_readSet_107 : decode cX5_readSet 107 = .ok (.invokevirtual 93, 3) := by decide +kernel
theorem dX5_readSet_110 : decode cX5_readSet 110 = .ok (.iconst 1, 1) := by decide +kernel
theorem dX5_readSet_111 : decode cX5_readSet 111 = .ok (.ireturn, 1) := by decide +kernel
set_option maxRecDepth 20000 in
theorem ggX5_low_X5_has : GoodIn wsX5_low wsX5_has := goodIn_r _ [4] (by decide +kernel) (by decide +kernel)
set_option maxRecDepth 20000 in
theorem gX5_low_X5_has : GoodIn wsX5_low (va_wsS RX5 103 yX5_has wsX5_has) := goodIn_app (goodIn_of _ (by decide +kernel)) ggX5_low_X5_has
theorem dX5_low_0 : decode cX5_low 0 = .ok (.iconst 0, 1) := by decide +kernel
theorem dX5_low_1 : decode cX5_low 1 = .ok (.istore_n 1, 1) := by decide +kernel
theorem dX5_low_2 : decode cX5_low 2 = .ok (.iload_n 0, 1) := by decide +kernel
theorem dX5_low_3 : decode cX5_low 3 = .ok (.iload_n 1, 1) := by decide +kernel
theorem dX5_low_4 : decode cX5_low 4 = .ok (.invokestatic 103, 3) := by decide +kernel
theorem dX5_low_7 : decode cX5_low 7 = .ok (.ifCond .ne 9, 3) := by decide +kernel
theorem dX5_low_10 : decode cX5_low 10 = .ok (.iinc 1 1, 3) := by decide +kernel
theorem dX5_low_13 : decode cX5_low 13 = .ok (.goto (-11), 3) := by decide +kernel
theorem dX5_low_16 : decode cX5_low 16 = .ok (.iload_n 1, 1) := by decide +kernel
theorem dX5_low_17 : decode cX5_low 17 = .ok (.ireturn, 1) := by decide +kernel
theorem dX5_joins_0 : decode cX5_joins 0 = .ok (.aload_n 0, 1) := by decide +kernel
theorem dX5_joins_1 : decode cX5_joins 1 = .ok (.sipush 257, 3) := by decide +kernel
theorem dX5_joins_4 : decode cX5_joins 4 = .ok (.iload_n 1, 1) := by decide +kernel
theorem dX5_joins_5 : decode cX5_joins 5 = .ok (.iadd, 1) := by decide +kernel
theorem dX5_joins_6 : decode cX5_joins 6 = .ok (.dup2, 1) := by decide +kernel
theorem dX5_joins_7 : decode cX5_joins 7 = .ok (.iaload, 1) := by decide +kernel
theorem dX5_joins_8 : decode cX5_joins 8 = .ok (.iconst 1, 1) := by decide +kernel
theorem dX5_joins_9 : decode cX5_joins 9 = .ok (.iload_n 2, 1) := by decide +kernel
theorem dX5_joins_10 : decode cX5_joins 10 = .ok (.ishl, 1) := by decide +kernel
theorem dX5_joins_11 : decode cX5_joins 11 = .ok (.ixor, 1) := by decide +kernel
theorem dX5_joins_12 : decode cX5_joins 12 = .ok (.iastore, 1) := by decide +kernel
theorem dX5_joins_13 : decode cX5_joins 13 = .ok (.aload_n 0, 1) := by decide +kernel
theorem dX5_joins_14 : decode cX5_joins 14 = .ok (.sipush 257, 3) := by decide +kernel
theorem dX5_joins_17 : decode cX5_joins 17 = .ok (.iload_n 2, 1) := by decide +kernel
theorem dX5_joins_18 : decode cX5_joins 18 = .ok (.iadd, 1) := by decide +kernel
theorem dX5_joins_19 : decode cX5_joins 19 = .ok (.dup2, 1) := by decide +kernel
theorem dX5_joins_20 : decode cX5_joins 20 = .ok (.iaload, 1) := by decide +kernel
theorem dX5_joins_21 : decode cX5_joins 21 = .ok (.iconst 1, 1) := by decide +kernel
theorem dX5_joins_22 : decode cX5_joins 22 = .ok (.iload_n 1, 1) := by decide +kernel
theorem dX5_joins_23 : decode cX5_joins 23 = .ok (.ishl, 1) := by decide +kernel
theorem dX5_joins_24 : decode cX5_joins 24 = .ok (.ixor, 1) := by decide +kernel
theorem dX5_joins_25 : decode cX5_joins 25 = .ok (.iastore, 1) := by decide +kernel
theorem dX5_joins_26 : decode cX5_joins 26 = .ok (.return_, 1) := by decide +kernel
set_option maxRecDepth 20000 in
theorem ggX5_readPair_X5_next : GoodIn wsX5_readPair wsX5_next := goodIn_r _ [7, 8, 9, 10, 11, 1, 12, 13, 14, 6, 15, 16, 17, 18, 19, 20, 21, 22, 45, 46, 47, 48, 49, 50, 51, 52, 53, 54, 55, 56, 57, 58, 59, 60, 61, 62, 63, 64, 65, 66, 67, 68] (by decide +kernel) (by decide +kernel)
set_option maxRecDepth 20000 in
theorem gX5_readPair_X5_next : GoodIn wsX5_readPair (wsV RX5 93 RX5 yX5_next wsX5_next) := goodIn_app (goodIn_of _ (by decide +kernel)) ggX5_readPair_X5_next
set_option maxRecDepth 20000 in
theorem ggX5_readPair_X5_bad : GoodIn wsX5_readPair wsX5_bad := goodIn_r _ [26, 1, 27, 11, 28, 45, 46, 47, 48, 49, 50, 51, 52, 53, 54, 55, 56, 57, 58, 59, 60, 61, 62, 63, 64, 65, 66, 67, 68] (by decide +kernel) (by decide +kernel)
set_option maxRecDepth 20000 in
theorem gX5_readPair_X5_bad : GoodIn wsX5_readPair (wsV RX5 96 RX5 yX5_bad wsX5_bad) := goodIn_app (goodIn_of _ (by decide +kernel)) ggX5_readPair_X5_bad
set_option maxRecDepth 20000 in
theorem ggX5_readPair_X5_letters : GoodIn wsX5_readPair wsX5_letters := goodIn_r _ [32, 11, 8, 10, 2, 33, 34, 6, 35, 45, 46, 47, 48, 49, 50, 51, 52, 53, 54, 55, 56, 57, 58, 59, 60, 61, 62, 63, 64, 65, 66, 67, 68] (by decide +kernel) (by decide +kernel)
set_option maxRecDepth 20000 in
theorem gX5_readPair_X5_letters : GoodIn wsX5_readPair (wsV RX5 107 RX5 yX5_letters wsX5_letters) := goodIn_app (goodIn_of _ (by decide +kernel)) ggX5_readPair_X5_letters
set_option maxRecDepth 20000 in
theorem ggX5_readPair_X5_bits : GoodIn wsX5_readPair wsX5_bits := goodIn_r _ [38] (by decide +kernel) (by decide +kernel)
set_option maxRecDepth 20000 in
theorem gX5_readPair_X5_bits : GoodIn wsX5_readPair (va_wsS RX5 111 yX5_bits wsX5_bits) := goodIn_app (goodIn_of _ (by decide +kernel)) ggX5_readPair_X5_bits
set_option maxRecDepth 20000 in
theorem ggX5_readPair_X5_low : GoodIn wsX5_readPair wsX5_low := goodIn_r _ [41, 33, 34, 6, 35] (by decide +kernel) (by decide +kernel)
set_option maxRecDepth 20000 in
theorem gX5_readPair_X5_low : GoodIn wsX5_readPair (va_wsS RX5 114 yX5_low wsX5_low) := goodIn_app (goodIn_of _ (by decide +kernel)) ggX5_readPair_X5_low
set_option maxRecDepth 20000 in
theorem ggX5_readPair_X5_has : GoodIn wsX5_readPair wsX5_has := goodIn_r _ [35] (by decide +kernel) (by decide +kernel)
set_option maxRecDepth 20000 in
theorem gX5_readPair_X5_has : GoodIn wsX5_readPair (va_wsS RX5 103 yX5_has wsX5_has) := goodIn_app (goodIn_of _ (by decide +kernel)) ggX5_readPair_X5_has
set_option maxRecDepth 20000 in
theorem ggX5_readPair_X5_joins : GoodIn wsX5_readPair wsX5_joins := goodIn_r _ [44] (by decide +kernel) (by decide +kernel)
set_option maxRecDepth 20000 in
theorem gX5_readPair_X5_joins : GoodIn wsX5_readPair (va_wsS RX5 117 yX5_joins wsX5_joins) := goodIn_app (goodIn_of _ (by decide +kernel)) ggX5_readPair_X5_joins
theorem dX5_readPair_0 : decode cX5_readPair 0 = .ok (.aload_n 0, 1) := by decide +kernel
theorem dX5_readPair_1 : decode cX5_readPair 1 = .ok (.invokevirtual 93, 3) := by decide +kernel
theorem dX5_readPair_4 : decode cX5_readPair 4 = .ok (.aload_n 0, 1) := by decide +kernel
theorem dX5_readPair_5 : decode cX5_readPair 5 = .ok (.getfield 27, 3) := by decide +kernel
theorem dX5_readPair_8 : decode cX5_readPair 8 = .ok (.iconst 2, 1) := by decide +kernel
theorem dX5_readPair_9 : decode cX5_readPair 9 = .ok (.if_icmp .eq 9, 3) := by decide +kernel
theorem dX5_readPair_12 : decode cX5_readPair 12 = .ok (.aload_n 0, 1) := by decide +kernel
theorem dX5_readPair_13 : decode cX5_readPair 13 = .ok (.iconst 1, 1) := by decide +kernel
theorem dX5_readPair_14 : decode cX5_readPair 14 = .ok (.invokevirtual 96, 3) := by decide +kernel
theorem dX5_readPair_17 : decode cX5_readPair 17 = .ok (.ireturn, 1) := by decide +kernel
theorem dX5_readPair_18 : decode cX5_readPair 18 = .ok (.aload_n 0, 1) := by decide +kernel
theorem dX5_readPair_19 : decode cX5_readPair 19 = .ok (.invokevirtual 107, 3) := by decide +kernel
theorem dX5_readPair_22 : decode cX5_readPair 22 = .ok (.istore_n 1, 1) := by decide +kernel
theorem dX5_readPair_23 : decode cX5_readPair 23 = .ok (.iload_n 1, 1) := by decide +kernel
theorem dX5_readPair_24 : decode cX5_readPair 24 = .ok (.iconst (-1), 1) := by decide +kernel
theorem dX5_readPair_25 : decode cX5_readPair 25 = .ok (.if_icmp .eq 11, 3) := by decide +kernel
theorem dX5_readPair_28 : decode cX5_readPair 28 = .ok (.iload_n 1, 1) := by decide +kernel
theorem dX5_readPair_29 : decode cX5_readPair 29 = .ok (.invokestatic 111, 3) := by decide +kernel
theorem dX5_readPair_32 : decode cX5_readPair 32 = .ok (.iconst 2, 1) := by decide +kernel
theorem dX5_readPair_33 : decode cX5_readPair 33 = .ok (.if_icmp .eq 9, 3) := by decide +kernel
theorem dX5_readPair_36 : decode cX5_readPair 36 = .ok (.aload_n 0, 1) := by decide +kernel
theorem dX5_readPair_37 : decode cX5_readPair 37 = .ok (.iconst 3, 1) := by decide +kernel
theorem dX5_readPair_38 : decode cX5_readPair 38 = .ok (.invokevirtual 96, 3) := by decide +kernel
theorem dX5_readPair_41 : decode cX5_readPair 41 = .ok (.ireturn, 1) := by decide +kernel
theorem dX5_readPair_42 : decode cX5_readPair 42 = .ok (.iload_n 1, 1) := by decide +kernel
theorem dX5_readPair_43 : decode cX5_readPair 43 = .ok (.invokestatic 114, 3) := by decide +kernel
theorem dX5_readPair_46 : decode cX5_readPair 46 = .ok (.istore_n 2, 1) := by decide +kernel
theorem dX5_readPair_47 : decode cX5_readPair 47 = .ok (.iload_n 1, 1) := by decide +kernel
theorem dX5_readPair_48 : decode cX5_readPair 48 = .ok (.iconst 1, 1) := by decide +kernel
theorem dX5_readPair_49 : decode cX5_readPair 49 = .ok (.iload_n 2, 1) := by decide +kernel
theorem dX5_readPair_50 : decode cX5_readPair 50 = .ok (.ishl, 1) := by decide +kernel
theorem dX5_readPair_51 : decode cX5_readPair 51 = .ok (.iconst (-1), 1) := by decide +kernel
theorem dX5_readPair_52 : decode cX5_readPair 52 = .ok (.ixor, 1) := by decide +kernel
theorem dX5_readPair_53 : decode cX5_readPair 53 = .ok (.iand, 1) := by decide +kernel
theorem dX5_readPair_54 : decode cX5_readPair 54 = .ok (.invokestatic 114, 3) := by decide +kernel
theorem dX5_readPair_57 : decode cX5_readPair 57 = .ok (.istore_n 3, 1) := by decide +kernel
theorem dX5_readPair_58 : decode cX5_readPair 58 = .ok (.aload_n 0, 1) := by decide +kernel
theorem dX5_readPair_59 : decode cX5_readPair 59 = .ok (.getfield 59, 3) := by decide +kernel
theorem dX5_readPair_62 : decode cX5_readPair 62 = .ok (.sipush 257, 3) := by decide +kernel
theorem dX5_readPair_65 : decode cX5_readPair 65 = .ok (.iload_n 2, 1) := by decide +kernel
theorem dX5_readPair_66 : decode cX5_readPair 66 = .ok (.iadd, 1) := by decide +kernel
theorem dX5_readPair_67 : decode cX5_readPair 67 = .ok (.iaload, 1) := by decide +kernel
theorem dX5_readPair_68 : decode cX5_readPair 68 = .ok (.iload_n 3, 1) := by decide +kernel
theorem dX5_readPair_69 : decode cX5_readPair 69 = .ok (.invokestatic 103, 3) := by decide +kernel
theorem dX5_readPair_72 : decode cX5_readPair 72 = .ok (.ifCond .eq 9, 3) := by decide +kernel
theorem dX5_readPair_75 : decode cX5_readPair 75 = .ok (.aload_n 0, 1) := by decide +kernel
theorem dX5_readPair_76 : decode cX5_readPair 76 = .ok (.iconst 4, 1) := by decide +kernel
theorem dX5_readPair_77 : decode cX5_readPair 77 = .ok (.invokevirtual 96, 3) := by decide +kernel
theorem dX5_readPair_80 : decode cX5_readPair 80 = .ok (.ireturn, 1) := by decide +kernel
theorem dX5_readPair_81 : decode cX5_readPair 81 = .ok (.aload_n 0, 1) := by decide +kernel
theorem dX5_readPair_82 : decode cX5_readPair 82 = .ok (.getfield 59, 3) := by decide +kernel
theorem dX5_readPair_85 : decode cX5_readPair 85 = .ok (.iload_n 2, 1) := by decide +kernel
theorem dX5_readPair_86 : decode cX5_readPair 86 = .ok (.iload_n 3, 1) := by decide +kernel
theorem dX5_readPair_87 : decode cX5_readPair 87 = .ok (.invokestatic 117, 3) := by decide +kernel
theorem dX5_readPair_90 : decode cX5_readPair 90 = .ok (.aload_n 0, 1) := by decide +kernel
theorem dX5_readPair_91 : decode cX5_readPair 91 = .ok (.invokevirtual 93, 3) := by decide +kernel
theorem dX5_readPair_94 : decode cX5_readPair 94 = .ok (.iconst 1, 1) := by decide +kernel
theorem dX5_readPair_95 : decode cX5_readPair 95 = .ok (.ireturn, 1) := by decide +kernel
set_option maxRecDepth 20000 in
theorem ggX5_readLine_X5_isWord : GoodIn wsX5_readLine wsX5_isWord := goodIn_r _ [6, 7, 8, 9, 10, 64, 65, 66, 67, 68, 69, 70, 71, 72, 73, 74, 75, 76, 77, 78, 79, 80, 81, 82, 83, 84, 85, 86, 87] (by decide +kernel) (by decide +kernel)
set_option maxRecDepth 20000 in
theorem gX5_readLine_X5_isWord : GoodIn wsX5_readLine (wsV RX5 121 RX5 yX5_isWord wsX5_isWord) := goodIn_app (goodIn_of _ (by decide +kernel)) ggX5_readLine_X5_isWord
set_option maxRecDepth 20000 in
theorem ggX5_readLine_X5_readThings : GoodIn wsX5_readLine wsX5_readThings := goodIn_r _ [14, 7, 15, 1, 16, 17, 18, 5, 19, 8, 20, 10, 9, 21, 22, 23, 24, 25, 26, 27, 28, 29, 30, 31, 32, 33, 34, 35, 36, 37, 38, 39, 64, 65, 66, 67, 68, 69, 70, 71, 72, 73, 74, 75, 76, 77, 78, 79, 80, 81, 82, 83, 84, 85, 86, 87] (by decide +kernel) (by decide +kernel)
set_option maxRecDepth 20000 in
theorem gX5_readLine_X5_readThings : GoodIn wsX5_readLine (wsV RX5 125 RX5 yX5_readThings wsX5_readThings) := goodIn_app (goodIn_of _ (by decide +kernel)) ggX5_readLine_X5_readThings
set_option maxRecDepth 20000 in
theorem ggX5_readLine_X5_bad : GoodIn wsX5_readLine wsX5_bad := goodIn_r _ [34, 7, 35, 9, 36, 64, 65, 66, 67, 68, 69, 70, 71, 72, 73, 74, 75, 76, 77, 78, 79, 80, 81, 82, 83, 84, 85, 86, 87] (by decide +kernel) (by decide +kernel)
set_option maxRecDepth 20000 in
theorem gX5_readLine_X5_bad : GoodIn wsX5_readLine (wsV RX5 96 RX5 yX5_bad wsX5_bad) := goodIn_app (goodIn_of _ (by decide +kernel)) ggX5_readLine_X5_bad
set_option maxRecDepth 20000 in
theorem ggX5_readLine_X5_readSet : GoodIn wsX5_readLine wsX5_readSet := goodIn_r _ [43, 7, 1, 15, 16, 17, 18, 5, 19, 8, 20, 10, 9, 21, 22, 23, 24, 25, 26, 27, 28, 29, 30, 31, 32, 33, 34, 35, 36, 44, 45, 46, 47, 48, 49, 50, 37, 38, 39, 64, 65, 66, 67, 68, 69, 70, 71, 72, 73, 74, 75, 76, 77, 78, 79, 80, 81, 82, 83, 84, 85, 86, 87] (by decide +kernel) (by decide +kernel)
set_option maxRecDepth 20000 in
theorem gX5_readLine_X5_readSet : GoodIn wsX5_readLine (wsV RX5 129 RX5 yX5_readSet wsX5_readSet) := goodIn_app (goodIn_of _ (by decide +kernel)) ggX5_readLine_X5_readSet
set_option maxRecDepth 20000 in
theorem ggX5_readLine_X5_readPair : GoodIn wsX5_readLine wsX5_readPair := goodIn_r _ [54, 7, 1, 16, 17, 18, 5, 19, 8, 20, 10, 9, 15, 21, 22, 23, 24, 25, 26, 27, 28, 29, 30, 31, 32, 33, 34, 35, 36, 44, 45, 46, 47, 48, 49, 50, 55, 56, 57, 58, 59, 60, 61, 62, 63, 64, 65, 66, 67, 68, 69, 70, 71, 72, 73, 74, 75, 76, 77, 78, 79, 80, 81, 82, 83, 84, 85, 86, 87] (by decide +kernel) (by decide +kernel)
set_option maxRecDepth 20000 in
theorem gX5_readLine_X5_readPair : GoodIn wsX5_readLine (wsV RX5 132 RX5 yX5_readPair wsX5_readPair) := goodIn_app (goodIn_of _ (by decide +kernel)) ggX5_readLine_X5_readPair
theorem dX5_readLine_0 : decode cX5_readLine 0 = .ok (.aload_n 0, 1) := by decide +kernel
theorem dX5_readLine_1 : decode cX5_readLine 1 = .ok (.getfield 59, 3) := by decide +kernel
theorem dX5_readLine_4 : decode cX5_readLine 4 = .ok (.iconst 0, 1) := by decide +kernel
theorem dX5_readLine_5 : decode cX5_readLine 5 = .ok (.iaload, 1) := by decide +kernel
theorem dX5_readLine_6 : decode cX5_readLine 6 = .ok (.ifCond .ne 35, 3) := by decide +kernel
theorem dX5_readLine_9 : decode cX5_readLine 9 = .ok (.aload_n 0, 1) := by decide +kernel
theorem dX5_readLine_10 : decode cX5_readLine 10 = .ok (.bipush 116, 2) := by decide +kernel
theorem dX5_readLine_12 : decode cX5_readLine 12 = .ok (.bipush 104, 2) := by decide +kernel
theorem dX5_readLine_14 : decode cX5_readLine 14 = .ok (.bipush 105, 2) := by decide +kernel
theorem dX5_readLine_16 : decode cX5_readLine 16 = .ok (.bipush 110, 2) := by decide +kernel
theorem dX5_readLine_18 : decode cX5_readLine 18 = .ok (.bipush 103, 2) := by decide +kernel
theorem dX5_readLine_20 : decode cX5_readLine 20 = .ok (.bipush 115, 2) := by decide +kernel
theorem dX5_readLine_22 : decode cX5_readLine 22 = .ok (.invokevirtual 121, 3) := by decide +kernel
theorem dX5_readLine_25 : decode cX5_readLine 25 = .ok (.ifCond .eq 10, 3) := by decide +kernel
theorem dX5_readLine_28 : decode cX5_readLine 28 = .ok (.aload_n 0, 1) := by decide +kernel
theorem dX5_readLine_29 : decode cX5_readLine 29 = .ok (.invokevirtual 125, 3) := by decide +kernel
theorem dX5_readLine_32 : decode cX5_readLine 32 = .ok (.goto 8, 3) := by decide +kernel
theorem dX5_readLine_35 : decode cX5_readLine 35 = .ok (.aload_n 0, 1) := by decide +kernel
theorem dX5_readLine_36 : decode cX5_readLine 36 = .ok (.iconst 1, 1) := by decide +kernel
theorem dX5_readLine_37 : decode cX5_readLine 37 = .ok (.invokevirtual 96, 3) := by decide +kernel
theorem dX5_readLine_40 : decode cX5_readLine 40 = .ok (.ireturn, 1) := by decide +kernel
theorem dX5_readLine_41 : decode cX5_readLine 41 = .ok (.aload_n 0, 1) := by decide +kernel
theorem dX5_readLine_42 : decode cX5_readLine 42 = .ok (.bipush 115, 2) := by decide +kernel
theorem dX5_readLine_44 : decode cX5_readLine 44 = .ok (.bipush 101, 2) := by decide +kernel
theorem dX5_readLine_46 : decode cX5_readLine 46 = .ok (.bipush 116, 2) := by decide +kernel
theorem dX5_readLine_48 : decode cX5_readLine 48 = .ok (.iconst 0, 1) := by decide +kernel
theorem dX5_readLine_49 : decode cX5_readLine 49 = .ok (.iconst 0, 1) := by decide +kernel
theorem dX5_readLine_50 : decode cX5_readLine 50 = .ok (.iconst 0, 1) := by decide +kernel
theorem dX5_readLine_51 : decode cX5_readLine 51 = .ok (.invokevirtual 121, 3) := by decide +kernel
theorem dX5_readLine_54 : decode cX5_readLine 54 = .ok (.ifCond .eq 8, 3) := by decide +kernel
theorem dX5_readLine_57 : decode cX5_readLine 57 = .ok (.aload_n 0, 1) := by decide +kernel
theorem dX5_readLine_58 : decode cX5_readLine 58 = .ok (.invokevirtual 129, 3) := by decide +kernel
theorem dX5_readLine_61 : decode cX5_readLine 61 = .ok (.ireturn, 1) := by decide +kernel
theorem dX5_readLine_62 : decode cX5_readLine 62 = .ok (.aload_n 0, 1) := by decide +kernel
theorem dX5_readLine_63 : decode cX5_readLine 63 = .ok (.bipush 112, 2) := by decide +kernel
theorem dX5_readLine_65 : decode cX5_readLine 65 = .ok (.bipush 97, 2) := by decide +kernel
theorem dX5_readLine_67 : decode cX5_readLine 67 = .ok (.bipush 105, 2) := by decide +kernel
theorem dX5_readLine_69 : decode cX5_readLine 69 = .ok (.bipush 114, 2) := by decide +kernel
theorem dX5_readLine_71 : decode cX5_readLine 71 = .ok (.iconst 0, 1) := by decide +kernel
theorem dX5_readLine_72 : decode cX5_readLine 72 = .ok (.iconst 0, 1) := by decide +kernel
theorem dX5_readLine_73 : decode cX5_readLine 73 = .ok (.invokevirtual 121, 3) := by decide +kernel
theorem dX5_readLine_76 : decode cX5_readLine 76 = .ok (.ifCond .eq 10, 3) := by decide +kernel
theorem dX5_readLine_79 : decode cX5_readLine 79 = .ok (.aload_n 0, 1) := by decide +kernel
theorem dX5_readLine_80 : decode cX5_readLine 80 = .ok (.invokevirtual 132, 3) := by decide +kernel
theorem dX5_readLine_83 : decode cX5_readLine 83 = .ok (.goto 8, 3) := by decide +kernel
theorem dX5_readLine_86 : decode cX5_readLine 86 = .ok (.aload_n 0, 1) := by decide +kernel
theorem dX5_readLine_87 : decode cX5_readLine 87 = .ok (.iconst 1, 1) := by decide +kernel
theorem dX5_readLine_88 : decode cX5_readLine 88 = .ok (.invokevirtual 96, 3) := by decide +kernel
theorem dX5_readLine_91 : decode cX5_readLine 91 = .ok (.ireturn, 1) := by decide +kernel
set_option maxRecDepth 20000 in
theorem ggX5_readEnd_X5_bad : GoodIn wsX5_readEnd wsX5_bad := goodIn_r _ [6, 1, 7, 8, 9, 28, 29, 30, 31, 32, 33, 34, 35, 36, 37, 38, 39, 40, 41, 42, 43, 44, 45, 46, 47, 48, 49, 50, 51] (by decide +kernel) (by decide +kernel)
set_option maxRecDepth 20000 in
theorem gX5_readEnd_X5_bad : GoodIn wsX5_readEnd (wsV RX5 96 RX5 yX5_bad wsX5_bad) := goodIn_app (goodIn_of _ (by decide +kernel)) ggX5_readEnd_X5_bad
set_option maxRecDepth 20000 in
theorem ggX5_readEnd_X5_next : GoodIn wsX5_readEnd wsX5_next := goodIn_r _ [13, 14, 15, 16, 8, 1, 17, 18, 19, 5, 20, 21, 22, 23, 24, 25, 26, 27, 28, 29, 30, 31, 32, 33, 34, 35, 36, 37, 38, 39, 40, 41, 42, 43, 44, 45, 46, 47, 48, 49, 50, 51] (by decide +kernel) (by decide +kernel)
set_option maxRecDepth 20000 in
theorem gX5_readEnd_X5_next : GoodIn wsX5_readEnd (wsV RX5 93 RX5 yX5_next wsX5_next) := goodIn_app (goodIn_of _ (by decide +kernel)) ggX5_readEnd_X5_next
theorem dX5_readEnd_0 : decode cX5_readEnd 0 = .ok (.aload_n 0, 1) := by decide +kernel
theorem dX5_readEnd_1 : decode cX5_readEnd 1 = .ok (.getfield 27, 3) := by decide +kernel
theorem dX5_readEnd_4 : decode cX5_readEnd 4 = .ok (.iconst 4, 1) := by decide +kernel
theorem dX5_readEnd_5 : decode cX5_readEnd 5 = .ok (.if_icmp .eq 9, 3) := by decide +kernel
theorem dX5_readEnd_8 : decode cX5_readEnd 8 = .ok (.aload_n 0, 1) := by decide +kernel
theorem dX5_readEnd_9 : decode cX5_readEnd 9 = .ok (.iconst 1, 1) := by decide +kernel
theorem dX5_readEnd_10 : decode cX5_readEnd 10 = .ok (.invokevirtual 96, 3) := by decide +kernel
theorem dX5_readEnd_13 : decode cX5_readEnd 13 = .ok (.ireturn, 1) := by decide +kernel
theorem dX5_readEnd_14 : decode cX5_readEnd 14 = .ok (.aload_n 0, 1) := by decide +kernel
theorem dX5_readEnd_15 : decode cX5_readEnd 15 = .ok (.invokevirtual 93, 3) := by decide +kernel
theorem dX5_readEnd_18 : decode cX5_readEnd 18 = .ok (.iconst 1, 1) := by decide +kernel
theorem dX5_readEnd_19 : decode cX5_readEnd 19 = .ok (.ireturn, 1) := by decide +kernel
set_option maxRecDepth 20000 in
theorem ggX5_text_X5_next : GoodIn wsX5_text wsX5_next := goodIn_r _ [15, 5, 3, 16, 17, 7, 18, 19, 20, 14, 21, 22, 23, 24, 25, 26, 27, 28, 79, 80, 81, 82, 83, 84, 85, 86, 87, 88, 89, 90, 91, 92, 93, 94, 95, 96, 97, 98, 99, 100, 101, 102] (by decide +kernel) (by decide +kernel)
set_option maxRecDepth 20000 in
theorem gX5_text_X5_next : GoodIn wsX5_text (wsV RX5 93 RX5 yX5_next wsX5_next) := goodIn_app (goodIn_of _ (by decide +kernel)) ggX5_text_X5_next
set_option maxRecDepth 20000 in
theorem ggX5_text_X5_readLine : GoodIn wsX5_text wsX5_readLine := goodIn_r _ [32, 6, 33, 34, 35, 14, 36, 7, 5, 17, 16, 37, 38, 39, 40, 18, 11, 12, 13, 15, 3, 19, 20, 21, 22, 23, 24, 25, 26, 27, 28, 41, 42, 43, 44, 4, 8, 45, 46, 47, 48, 49, 50, 51, 52, 53, 54, 55, 56, 57, 58, 59, 60, 61, 62, 63, 64, 65, 66, 67, 68, 69, 70, 71, 79, 80, 81, 82, 83, 84, 85, 86, 87, 88, 89, 90, 91, 92, 93, 94, 95, 96, 97, 98, 99, 100, 101, 102] (by decide +kernel) (by decide +kernel)
set_option maxRecDepth 20000 in
theorem gX5_text_X5_readLine : GoodIn wsX5_text (wsV RX5 135 RX5 yX5_readLine wsX5_readLine) := goodIn_app (goodIn_of _ (by decide +kernel)) ggX5_text_X5_readLine
set_option maxRecDepth 20000 in
theorem ggX5_text_X5_readEnd : GoodIn wsX5_text wsX5_readEnd := goodIn_r _ [75, 7, 41, 42, 43, 14, 44, 4, 17, 8, 11, 12, 13, 15, 5, 3, 16, 18, 19, 20, 21, 22, 23, 24, 25, 26, 27, 28, 79, 80, 81, 82, 83, 84, 85, 86, 87, 88, 89, 90, 91, 92, 93, 94, 95, 96, 97, 98, 99, 100, 101, 102] (by decide +kernel) (by decide +kernel)
set_option maxRecDepth 20000 in
theorem gX5_text_X5_readEnd : GoodIn wsX5_text (wsV RX5 138 RX5 yX5_readEnd wsX5_readEnd) := goodIn_app (goodIn_of _ (by decide +kernel)) ggX5_text_X5_readEnd
set_option maxRecDepth 20000 in
theorem ggX5_text_X5_copy : GoodIn wsX5_text wsX5_copy := goodIn_r _ [78] (by decide +kernel) (by decide +kernel)
set_option maxRecDepth 20000 in
theorem gX5_text_X5_copy : GoodIn wsX5_text (va_wsS RX5 141 yX5_copy wsX5_copy) := goodIn_app (goodIn_of _ (by decide +kernel)) ggX5_text_X5_copy
theorem dX5_text_0 : decode cX5_text 0 = .ok (.aload_n 0, 1) := by decide +kernel
theorem dX5_text_1 : decode cX5_text 1 = .ok (.iconst 0, 1) := by decide +kernel
theorem dX5_text_2 : decode cX5_text 2 = .ok (.putfield 1, 3) := by decide +kernel
theorem dX5_text_5 : decode cX5_text 5 = .ok (.aload_n 0, 1) := by decide +kernel
theorem dX5_text_6 : decode cX5_text 6 = .ok (.aload_n 0, 1) := by decide +kernel
theorem dX5_text_7 : decode cX5_text 7 = .ok (.getfield 11, 3) := by decide +kernel
theorem dX5_text_10 : decode cX5_text 10 = .ok (.putfield 18, 3) := by decide +kernel
theorem dX5_text_13 : decode cX5_text 13 = .ok (.aload_n 0, 1) := by decide +kernel
theorem dX5_text_14 : decode cX5_text 14 = .ok (.iconst 0, 1) := by decide +kernel
theorem dX5_text_15 : decode cX5_text 15 = .ok (.putfield 11, 3) := by decide +kernel
theorem dX5_text_18 : decode cX5_text 18 = .ok (.aload_n 0, 1) := by decide +kernel
theorem dX5_text_19 : decode cX5_text 19 = .ok (.iconst 0, 1) := by decide +kernel
theorem dX5_text_20 : decode cX5_text 20 = .ok (.putfield 44, 3) := by decide +kernel
theorem dX5_text_23 : decode cX5_text 23 = .ok (.aload_n 0, 1) := by decide +kernel
theorem dX5_text_24 : decode cX5_text 24 = .ok (.iconst 0, 1) := by decide +kernel
theorem dX5_text_25 : decode cX5_text 25 = .ok (.putfield 21, 3) := by decide +kernel
theorem dX5_text_28 : decode cX5_text 28 = .ok (.iconst 0, 1) := by decide +kernel
theorem dX5_text_29 : decode cX5_text 29 = .ok (.istore_n 1, 1) := by decide +kernel
theorem dX5_text_30 : decode cX5_text 30 = .ok (.iconst 0, 1) := by decide +kernel
theorem dX5_text_31 : decode cX5_text 31 = .ok (.istore_n 2, 1) := by decide +kernel
theorem dX5_text_32 : decode cX5_text 32 = .ok (.iload_n 2, 1) := by decide +kernel
theorem dX5_text_33 : decode cX5_text 33 = .ok (.sipush 1289, 3) := by decide +kernel
theorem dX5_text_36 : decode cX5_text 36 = .ok (.if_icmp .ge 16, 3) := by decide +kernel
theorem dX5_text_39 : decode cX5_text 39 = .ok (.aload_n 0, 1) := by decide +kernel
theorem dX5_text_40 : decode cX5_text 40 = .ok (.getfield 59, 3) := by decide +kernel
theorem dX5_text_43 : decode cX5_text 43 = .ok (.iload_n 2, 1) := by decide +kernel
theorem dX5_text_44 : decode cX5_text 44 = .ok (.iconst 0, 1) := by decide +kernel
theorem dX5_text_45 : decode cX5_text 45 = .ok (.iastore, 1) := by decide +kernel
theorem dX5_text_46 : decode cX5_text 46 = .ok (.iinc 2 1, 3) := by decide +kernel
theorem dX5_text_49 : decode cX5_text 49 = .ok (.goto (-17), 3) := by decide +kernel
theorem dX5_text_52 : decode cX5_text 52 = .ok (.aload_n 0, 1) := by decide +kernel
theorem dX5_text_53 : decode cX5_text 53 = .ok (.invokevirtual 93, 3) := by decide +kernel
theorem dX5_text_56 : decode cX5_text 56 = .ok (.aload_n 0, 1) := by decide +kernel
theorem dX5_text_57 : decode cX5_text 57 = .ok (.getfield 27, 3) := by decide +kernel
theorem dX5_text_60 : decode cX5_text 60 = .ok (.ifCond .eq 30, 3) := by decide +kernel
theorem dX5_text_63 : decode cX5_text 63 = .ok (.aload_n 0, 1) := by decide +kernel
theorem dX5_text_64 : decode cX5_text 64 = .ok (.invokevirtual 135, 3) := by decide +kernel
theorem dX5_text_67 : decode cX5_text 67 = .ok (.ifCond .eq 10, 3) := by decide +kernel
theorem dX5_text_70 : decode cX5_text 70 = .ok (.aload_n 0, 1) := by decide +kernel
theorem dX5_text_71 : decode cX5_text 71 = .ok (.invokevirtual 138, 3) := by decide +kernel
theorem dX5_text_74 : decode cX5_text 74 = .ok (.ifCond .ne 10, 3) := by decide +kernel
theorem dX5_text_77 : decode cX5_text 77 = .ok (.iconst (-1), 1) := by decide +kernel
theorem dX5_text_78 : decode cX5_text 78 = .ok (.aload_n 0, 1) := by decide +kernel
theorem dX5_text_79 : decode cX5_text 79 = .ok (.getfield 47, 3) := by decide +kernel
theorem dX5_text_82 : decode cX5_text 82 = .ok (.isub, 1) := by decide +kernel
theorem dX5_text_83 : decode cX5_text 83 = .ok (.ireturn, 1) := by decide +kernel
theorem dX5_text_84 : decode cX5_text 84 = .ok (.iinc 1 1, 3) := by decide +kernel
theorem dX5_text_87 : decode cX5_text 87 = .ok (.goto (-31), 3) := by decide +kernel
theorem dX5_text_90 : decode cX5_text 90 = .ok (.aload_n 0, 1) := by decide +kernel
theorem dX5_text_91 : decode cX5_text 91 = .ok (.getfield 59, 3) := by decide +kernel
theorem dX5_text_94 : decode cX5_text 94 = .ok (.iconst 0, 1) := by decide +kernel
theorem dX5_text_95 : decode cX5_text 95 = .ok (.aload_n 0, 1) := by decide +kernel
theorem dX5_text_96 : decode cX5_text 96 = .ok (.getfield 56, 3) := by decide +kernel
theorem dX5_text_99 : decode cX5_text 99 = .ok (.iconst 0, 1) := by decide +kernel
theorem dX5_text_100 : decode cX5_text 100 = .ok (.invokestatic 141, 3) := by decide +kernel
theorem dX5_text_103 : decode cX5_text 103 = .ok (.aload_n 0, 1) := by decide +kernel
theorem dX5_text_104 : decode cX5_text 104 = .ok (.iconst 0, 1) := by decide +kernel
theorem dX5_text_105 : decode cX5_text 105 = .ok (.putfield 145, 3) := by decide +kernel
theorem dX5_text_108 : decode cX5_text 108 = .ok (.iload_n 1, 1) := by decide +kernel
theorem dX5_text_109 : decode cX5_text 109 = .ok (.ireturn, 1) := by decide +kernel
theorem dX5_fault_0 : decode cX5_fault 0 = .ok (.aload_n 0, 1) := by decide +kernel
theorem dX5_fault_1 : decode cX5_fault 1 = .ok (.iconst 0, 1) := by decide +kernel
theorem dX5_fault_2 : decode cX5_fault 2 = .ok (.putfield 1, 3) := by decide +kernel
theorem dX5_fault_5 : decode cX5_fault 5 = .ok (.aload_n 0, 1) := by decide +kernel
theorem dX5_fault_6 : decode cX5_fault 6 = .ok (.getfield 44, 3) := by decide +kernel
theorem dX5_fault_9 : decode cX5_fault 9 = .ok (.ireturn, 1) := by decide +kernel
theorem dX5_things_0 : decode cX5_things 0 = .ok (.aload_n 0, 1) := by decide +kernel
theorem dX5_things_1 : decode cX5_things 1 = .ok (.getfield 56, 3) := by decide +kernel
theorem dX5_things_4 : decode cX5_things 4 = .ok (.iconst 0, 1) := by decide +kernel
theorem dX5_things_5 : decode cX5_things 5 = .ok (.iaload, 1) := by decide +kernel
theorem dX5_things_6 : decode cX5_things 6 = .ok (.ireturn, 1) := by decide +kernel
set_option maxRecDepth 20000 in
theorem ggX5_all_X5_things : GoodIn wsX5_all wsX5_things := goodIn_r _ [5, 6, 7, 8, 9, 10, 11, 12, 13, 14, 15, 16, 17, 18, 19, 20, 21, 22, 23, 24, 25, 26, 27, 28, 29, 30] (by decide +kernel) (by decide +kernel)
set_option maxRecDepth 20000 in
theorem gX5_all_X5_things : GoodIn wsX5_all (wsV RX5 148 RX5 yX5_things wsX5_things) := goodIn_app (goodIn_of _ (by decide +kernel)) ggX5_all_X5_things
theorem dX5_all_0 : decode cX5_all 0 = .ok (.iconst 1, 1) := by decide +kernel
theorem dX5_all_1 : decode cX5_all 1 = .ok (.aload_n 0, 1) := by decide +kernel
theorem dX5_all_2 : decode cX5_all 2 = .ok (.invokevirtual 148, 3) := by decide +kernel
theorem dX5_all_5 : decode cX5_all 5 = .ok (.ishl, 1) := by decide +kernel
theorem dX5_all_6 : decode cX5_all 6 = .ok (.iconst 1, 1) := by decide +kernel
theorem dX5_all_7 : decode cX5_all 7 = .ok (.isub, 1) := by decide +kernel
theorem dX5_all_8 : decode cX5_all 8 = .ok (.ireturn, 1) := by decide +kernel
set_option maxRecDepth 20000 in
theorem ggX5_isSet_X5_things : GoodIn wsX5_isSet wsX5_things := goodIn_r _ [5, 6, 14, 15, 16, 17, 18, 19, 20, 21, 22, 23, 24, 25, 26, 27, 28, 29, 30, 31, 32, 33, 34, 35, 36, 37] (by decide +kernel) (by decide +kernel)
set_option maxRecDepth 20000 in
theorem gX5_isSet_X5_things : GoodIn wsX5_isSet (wsV RX5 148 RX5 yX5_things wsX5_things) := goodIn_app (goodIn_of _ (by decide +kernel)) ggX5_isSet_X5_things
set_option maxRecDepth 20000 in
theorem ggX5_isSet_X5_all : GoodIn wsX5_isSet wsX5_all := goodIn_r _ [10, 1, 2, 3, 4, 5, 6, 14, 15, 16, 17, 18, 19, 20, 21, 22, 23, 24, 25, 26, 27, 28, 29, 30, 31, 32, 33, 34, 35, 36, 37] (by decide +kernel) (by decide +kernel)
set_option maxRecDepth 20000 in
theorem gX5_isSet_X5_all : GoodIn wsX5_isSet (wsV RX5 151 RX5 yX5_all wsX5_all) := goodIn_app (goodIn_of _ (by decide +kernel)) ggX5_isSet_X5_all
set_option maxRecDepth 20000 in
theorem ggX5_isSet_X5_isIn : GoodIn wsX5_isSet wsX5_isIn := goodIn_r _ [13] (by decide +kernel) (by decide +kernel)
set_option maxRecDepth 20000 in
theorem gX5_isSet_X5_isIn : GoodIn wsX5_isSet (va_wsS RX5 99 yX5_isIn wsX5_isIn) := goodIn_app (goodIn_of _ (by decide +kernel)) ggX5_isSet_X5_isIn
theorem dX5_isSet_0 : decode cX5_isSet 0 = .ok (.aload_n 0, 1) := by decide +kernel
theorem dX5_isSet_1 : decode cX5_isSet 1 = .ok (.invokevirtual 148, 3) := by decide +kernel
theorem dX5_isSet_4 : decode cX5_isSet 4 = .ok (.ifCond .le 19, 3) := by decide +kernel
theorem dX5_isSet_7 : decode cX5_isSet 7 = .ok (.iload_n 1, 1) := by decide +kernel
theorem dX5_isSet_8 : decode cX5_isSet 8 = .ok (.iconst 0, 1) := by decide +kernel
