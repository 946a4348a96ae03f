theorem dJ13_bitCount_95d88_47 : decode cJ13_bitCount_95d88 47 = .ok (.lstore_n 0, 1) := by decide +kernel
theorem dJ13_bitCount_95d88_48 : decode cJ13_bitCount_95d88 48 = .ok (.lload_n 0, 1) := by decide +kernel
theorem dJ13_bitCount_95d88_49 : decode cJ13_bitCount_95d88 49 = .ok (.lload_n 0, 1) := by decide +kernel
theorem dJ13_bitCount_95d88_50 : decode cJ13_bitCount_95d88 50 = .ok (.bipush 32, 2) := by decide +kernel
theorem dJ13_bitCount_95d88_52 : decode cJ13_bitCount_95d88 52 = .ok (.lushr, 1) := by decide +kernel
theorem dJ13_bitCount_95d88_53 : decode cJ13_bitCount_95d88 53 = .ok (.ladd, 1) := by decide +kernel
theorem dJ13_bitCount_95d88_54 : decode cJ13_bitCount_95d88 54 = .ok (.lstore_n 0, 1) := by decide +kernel
theorem dJ13_bitCount_95d88_55 : decode cJ13_bitCount_95d88 55 = .ok (.lload_n 0, 1) := by decide +kernel
theorem dJ13_bitCount_95d88_56 : decode cJ13_bitCount_95d88 56 = .ok (.l2i, 1) := by decide +kernel
theorem dJ13_bitCount_95d88_57 : decode cJ13_bitCount_95d88 57 = .ok (.bipush 127, 2) := by decide +kernel
theorem dJ13_bitCount_95d88_59 : decode cJ13_bitCount_95d88 59 = .ok (.iand, 1) := by decide +kernel
theorem dJ13_bitCount_95d88_60 : decode cJ13_bitCount_95d88 60 = .ok (.ireturn, 1) := by decide +kernel
theorem dJ9_min_7cf53_0 : decode cJ9_min_7cf53 0 = .ok (.iload_n 0, 1) := by decide +kernel
theorem dJ9_min_7cf53_1 : decode cJ9_min_7cf53 1 = .ok (.iload_n 1, 1) := by decide +kernel
theorem dJ9_min_7cf53_2 : decode cJ9_min_7cf53 2 = .ok (.if_icmp .gt 7, 3) := by decide +kernel
theorem dJ9_min_7cf53_5 : decode cJ9_min_7cf53 5 = .ok (.iload_n 0, 1) := by decide +kernel
theorem dJ9_min_7cf53_6 : decode cJ9_min_7cf53 6 = .ok (.goto 4, 3) := by decide +kernel
theorem dJ9_min_7cf53_9 : decode cJ9_min_7cf53 9 = .ok (.iload_n 1, 1) := by decide +kernel
theorem dJ9_min_7cf53_10 : decode cJ9_min_7cf53 10 = .ok (.ireturn, 1) := by decide +kernel
set_option maxRecDepth 20000 in
theorem ggJ0_length_8abf5_J0_coder_7d493 : GoodIn wsJ0_length_8abf5 wsJ0_coder_7d493 := goodIn_r _ [6, 7, 8] (by decide +kernel) (by decide +kernel)
set_option maxRecDepth 20000 in
theorem gJ0_length_8abf5_J0_coder_7d493 : GoodIn wsJ0_length_8abf5 (wsV RJ0 335 RJ0 yJ0_coder_7d493 wsJ0_coder_7d493) := goodIn_app (goodIn_of _ (by decide +kernel)) ggJ0_length_8abf5_J0_coder_7d493
theorem dJ0_length_8abf5_0 : decode cJ0_length_8abf5 0 = .ok (.aload_n 0, 1) := by decide +kernel
theorem dJ0_length_8abf5_1 : decode cJ0_length_8abf5 1 = .ok (.getfield 9, 3) := by decide +kernel
theorem dJ0_length_8abf5_4 : decode cJ0_length_8abf5 4 = .ok (.arraylength, 1) := by decide +kernel
theorem dJ0_length_8abf5_5 : decode cJ0_length_8abf5 5 = .ok (.aload_n 0, 1) := by decide +kernel
theorem dJ0_length_8abf5_6 : decode cJ0_length_8abf5 6 = .ok (.invokevirtual 335, 3) := by decide +kernel
theorem dJ0_length_8abf5_9 : decode cJ0_length_8abf5 9 = .ok (.ishr, 1) := by decide +kernel
theorem dJ0_length_8abf5_10 : decode cJ0_length_8abf5 10 = .ok (.ireturn, 1) := by decide +kernel
set_option maxRecDepth 20000 in
theorem ggJ0_charAt_5068e_J0_isLatin1_aae02 : GoodIn wsJ0_charAt_5068e wsJ0_isLatin1_aae02 := goodIn_r _ [6, 7, 8] (by decide +kernel) (by decide +kernel)
set_option maxRecDepth 20000 in
theorem gJ0_charAt_5068e_J0_isLatin1_aae02 : GoodIn wsJ0_charAt_5068e (wsV RJ0 492 RJ0 yJ0_isLatin1_aae02 wsJ0_isLatin1_aae02) := goodIn_app (goodIn_of _ (by decide +kernel)) ggJ0_charAt_5068e_J0_isLatin1_aae02
set_option maxRecDepth 20000 in
theorem ggJ0_charAt_5068e_J1_charAt_3b067 : GoodIn wsJ0_charAt_5068e wsJ1_charAt_3b067 := goodIn_r _ [12, 13, 14, 5, 15, 16, 17, 18, 19, 20] (by decide +kernel) (by decide +kernel)
set_option maxRecDepth 20000 in
theorem gJ0_charAt_5068e_J1_charAt_3b067 : GoodIn wsJ0_charAt_5068e (va_wsS RJ0 495 yJ1_charAt_3b067 wsJ1_charAt_3b067) := goodIn_app (goodIn_of _ (by decide +kernel)) ggJ0_charAt_5068e_J1_charAt_3b067
set_option maxRecDepth 20000 in
theorem ggJ0_charAt_5068e_J2_charAt_3b067 : GoodIn wsJ0_charAt_5068e wsJ2_charAt_3b067 := goodIn_r _ [24, 25, 26, 23, 27, 28, 29, 30, 31, 14, 5, 15, 16, 17, 18, 19, 20, 32, 33, 34, 35, 36, 37] (by decide +kernel) (by decide +kernel)
set_option maxRecDepth 20000 in
theorem gJ0_charAt_5068e_J2_charAt_3b067 : GoodIn wsJ0_charAt_5068e (va_wsS RJ0 498 yJ2_charAt_3b067 wsJ2_charAt_3b067) := goodIn_app (goodIn_of _ (by decide +kernel)) ggJ0_charAt_5068e_J2_charAt_3b067
theorem dJ0_charAt_5068e_0 : decode cJ0_charAt_5068e 0 = .ok (.aload_n 0, 1) := by decide +kernel
theorem dJ0_charAt_5068e_1 : decode cJ0_charAt_5068e 1 = .ok (.invokevirtual 492, 3) := by decide +kernel
theorem dJ0_charAt_5068e_4 : decode cJ0_charAt_5068e 4 = .ok (.ifCond .eq 12, 3) := by decide +kernel
theorem dJ0_charAt_5068e_7 : decode cJ0_charAt_5068e 7 = .ok (.aload_n 0, 1) := by decide +kernel
theorem dJ0_charAt_5068e_8 : decode cJ0_charAt_5068e 8 = .ok (.getfield 9, 3) := by decide +kernel
theorem dJ0_charAt_5068e_11 : decode cJ0_charAt_5068e 11 = .ok (.iload_n 1, 1) := by decide +kernel
theorem dJ0_charAt_5068e_12 : decode cJ0_charAt_5068e 12 = .ok (.invokestatic 495, 3) := by decide +kernel
theorem dJ0_charAt_5068e_15 : decode cJ0_charAt_5068e 15 = .ok (.ireturn, 1) := by decide +kernel
theorem dJ0_charAt_5068e_16 : decode cJ0_charAt_5068e 16 = .ok (.aload_n 0, 1) := by decide +kernel
theorem dJ0_charAt_5068e_17 : decode cJ0_charAt_5068e 17 = .ok (.getfield 9, 3) := by decide +kernel
theorem dJ0_charAt_5068e_20 : decode cJ0_charAt_5068e 20 = .ok (.iload_n 1, 1) := by decide +kernel
theorem dJ0_charAt_5068e_21 : decode cJ0_charAt_5068e 21 = .ok (.invokestatic 498, 3) := by decide +kernel
theorem dJ0_charAt_5068e_24 : decode cJ0_charAt_5068e 24 = .ok (.ireturn, 1) := by decide +kernel
theorem dJ0_coder_7d493_0 : decode cJ0_coder_7d493 0 = .ok (.getstatic 38, 3) := by decide +kernel
theorem dJ0_coder_7d493_3 : decode cJ0_coder_7d493 3 = .ok (.ifCond .eq 10, 3) := by decide +kernel
theorem dJ0_coder_7d493_6 : decode cJ0_coder_7d493 6 = .ok (.aload_n 0, 1) := by decide +kernel
theorem dJ0_coder_7d493_7 : decode cJ0_coder_7d493 7 = .ok (.getfield 15, 3) := by decide +kernel
theorem dJ0_coder_7d493_10 : decode cJ0_coder_7d493 10 = .ok (.goto 4, 3) := by decide +kernel
theorem dJ0_coder_7d493_13 : decode cJ0_coder_7d493 13 = .ok (.iconst 1, 1) := by decide +kernel
theorem dJ0_coder_7d493_14 : decode cJ0_coder_7d493 14 = .ok (.ireturn, 1) := by decide +kernel
theorem dJ0_isLatin1_aae02_0 : decode cJ0_isLatin1_aae02 0 = .ok (.getstatic 38, 3) := by decide +kernel
theorem dJ0_isLatin1_aae02_3 : decode cJ0_isLatin1_aae02 3 = .ok (.ifCond .eq 14, 3) := by decide +kernel
theorem dJ0_isLatin1_aae02_6 : decode cJ0_isLatin1_aae02 6 = .ok (.aload_n 0, 1) := by decide +kernel
theorem dJ0_isLatin1_aae02_7 : decode cJ0_isLatin1_aae02 7 = .ok (.getfield 15, 3) := by decide +kernel
theorem dJ0_isLatin1_aae02_10 : decode cJ0_isLatin1_aae02 10 = .ok (.ifCond .ne 7, 3) := by decide +kernel
theorem dJ0_isLatin1_aae02_13 : decode cJ0_isLatin1_aae02 13 = .ok (.iconst 1, 1) := by decide +kernel
theorem dJ0_isLatin1_aae02_14 : decode cJ0_isLatin1_aae02 14 = .ok (.goto 4, 3) := by decide +kernel
theorem dJ0_isLatin1_aae02_17 : decode cJ0_isLatin1_aae02 17 = .ok (.iconst 0, 1) := by decide +kernel
theorem dJ0_isLatin1_aae02_18 : decode cJ0_isLatin1_aae02 18 = .ok (.ireturn, 1) := by decide +kernel
set_option maxRecDepth 20000 in
theorem ggJ0_checkIndex_df160_J3_checkIndex_8e157 : GoodIn wsJ0_checkIndex_df160 wsJ3_checkIndex_8e157 := goodIn_r _ [5] (by decide +kernel) (by decide +kernel)
set_option maxRecDepth 20000 in
theorem gJ0_checkIndex_df160_J3_checkIndex_8e157 : GoodIn wsJ0_checkIndex_df160 (va_wsS RJ0 1059 yJ3_checkIndex_8e157 wsJ3_checkIndex_8e157) := goodIn_app (goodIn_of _ (by decide +kernel)) ggJ0_checkIndex_df160_J3_checkIndex_8e157
theorem dJ0_checkIndex_df160_0 : decode cJ0_checkIndex_df160 0 = .ok (.iload_n 0, 1) := by decide +kernel
theorem dJ0_checkIndex_df160_1 : decode cJ0_checkIndex_df160 1 = .ok (.iload_n 1, 1) := by decide +kernel
theorem dJ0_checkIndex_df160_2 : decode cJ0_checkIndex_df160 2 = .ok (.getstatic 1053, 3) := by decide +kernel
theorem dJ0_checkIndex_df160_5 : decode cJ0_checkIndex_df160 5 = .ok (.invokestatic 1059, 3) := by decide +kernel
theorem dJ0_checkIndex_df160_8 : decode cJ0_checkIndex_df160 8 = .ok (.pop, 1) := by decide +kernel
theorem dJ0_checkIndex_df160_9 : decode cJ0_checkIndex_df160 9 = .ok (.return_, 1) := by decide +kernel
set_option maxRecDepth 20000 in
theorem ggJ1_charAt_3b067_J0_checkIndex_df160 : GoodIn wsJ1_charAt_3b067 wsJ0_checkIndex_df160 := goodIn_r _ [4, 5, 6, 7, 8, 9] (by decide +kernel) (by decide +kernel)
set_option maxRecDepth 20000 in
theorem gJ1_charAt_3b067_J0_checkIndex_df160 : GoodIn wsJ1_charAt_3b067 (va_wsS RJ1 9 yJ0_checkIndex_df160 wsJ0_checkIndex_df160) := goodIn_app (goodIn_of _ (by decide +kernel)) ggJ1_charAt_3b067_J0_checkIndex_df160
theorem dJ1_charAt_3b067_0 : decode cJ1_charAt_3b067 0 = .ok (.iload_n 1, 1) := by decide +kernel
theorem dJ1_charAt_3b067_1 : decode cJ1_charAt_3b067 1 = .ok (.aload_n 0, 1) := by decide +kernel
theorem dJ1_charAt_3b067_2 : decode cJ1_charAt_3b067 2 = .ok (.arraylength, 1) := by decide +kernel
theorem dJ1_charAt_3b067_3 : decode cJ1_charAt_3b067 3 = .ok (.invokestatic 9, 3) := by decide +kernel
theorem dJ1_charAt_3b067_6 : decode cJ1_charAt_3b067 6 = .ok (.aload_n 0, 1) := by decide +kernel
theorem dJ1_charAt_3b067_7 : decode cJ1_charAt_3b067 7 = .ok (.iload_n 1, 1) := by decide +kernel
theorem dJ1_charAt_3b067_8 : decode cJ1_charAt_3b067 8 = .ok (.baload, 1) := by decide +kernel
theorem dJ1_charAt_3b067_9 : decode cJ1_charAt_3b067 9 = .ok (.sipush 255, 3) := by decide +kernel
theorem dJ1_charAt_3b067_12 : decode cJ1_charAt_3b067 12 = .ok (.iand, 1) := by decide +kernel
theorem dJ1_charAt_3b067_13 : decode cJ1_charAt_3b067 13 = .ok (.i2c, 1) := by decide +kernel
theorem dJ1_charAt_3b067_14 : decode cJ1_charAt_3b067 14 = .ok (.ireturn, 1) := by decide +kernel
set_option maxRecDepth 20000 in
theorem ggJ2_getChar_3b067_J2_length_9d52b : GoodIn wsJ2_getChar_3b067 wsJ2_length_9d52b := goodIn_r _ [7] (by decide +kernel) (by decide +kernel)
set_option maxRecDepth 20000 in
theorem gJ2_getChar_3b067_J2_length_9d52b : GoodIn wsJ2_getChar_3b067 (va_wsS RJ2 48 yJ2_length_9d52b wsJ2_length_9d52b) := goodIn_app (goodIn_of _ (by decide +kernel)) ggJ2_getChar_3b067_J2_length_9d52b
theorem dJ2_getChar_3b067_0 : decode cJ2_getChar_3b067 0 = .ok (.getstatic 44, 3) := by decide +kernel
theorem dJ2_getChar_3b067_3 : decode cJ2_getChar_3b067 3 = .ok (.ifCond .ne 25, 3) := by decide +kernel
theorem dJ2_getChar_3b067_6 : decode cJ2_getChar_3b067 6 = .ok (.iload_n 1, 1) := by decide +kernel
theorem dJ2_getChar_3b067_7 : decode cJ2_getChar_3b067 7 = .ok (.ifCond .lt 11, 3) := by decide +kernel
theorem dJ2_getChar_3b067_10 : decode cJ2_getChar_3b067 10 = .ok (.iload_n 1, 1) := by decide +kernel
theorem dJ2_getChar_3b067_11 : decode cJ2_getChar_3b067 11 = .ok (.aload_n 0, 1) := by decide +kernel
theorem dJ2_getChar_3b067_12 : decode cJ2_getChar_3b067 12 = .ok (.invokestatic 48, 3) := by decide +kernel
theorem dJ2_getChar_3b067_15 : decode cJ2_getChar_3b067 15 = .ok (.if_icmp .lt 13, 3) := by decide +kernel
theorem dJ2_getChar_3b067_18 : decode cJ2_getChar_3b067 18 = .ok (.new 52, 3) := by decide +kernel
theorem dJ2_getChar_3b067_21 : decode cJ2_getChar_3b067 21 = .ok (.dup, 1) := by decide +kernel
theorem dJ2_getChar_3b067_22 : decode cJ2_getChar_3b067 22 = .ok (.ldc 54, 2) := by decide +kernel
theorem dJ2_getChar_3b067_24 : decode cJ2_getChar_3b067 24 = .ok (.invokespecial 56, 3) := by decide +kernel
theorem dJ2_getChar_3b067_27 : decode cJ2_getChar_3b067 27 = .ok (.athrow, 1) := by decide +kernel
theorem dJ2_getChar_3b067_28 : decode cJ2_getChar_3b067 28 = .ok (.iload_n 1, 1) := by decide +kernel
theorem dJ2_getChar_3b067_29 : decode cJ2_getChar_3b067 29 = .ok (.iconst 1, 1) := by decide +kernel
theorem dJ2_getChar_3b067_30 : decode cJ2_getChar_3b067 30 = .ok (.ishl, 1) := by decide +kernel
theorem dJ2_getChar_3b067_31 : decode cJ2_getChar_3b067 31 = .ok (.istore_n 1, 1) := by decide +kernel
theorem dJ2_getChar_3b067_32 : decode cJ2_getChar_3b067 32 = .ok (.aload_n 0, 1) := by decide +kernel
theorem dJ2_getChar_3b067_33 : decode cJ2_getChar_3b067 33 = .ok (.iload_n 1, 1) := by decide +kernel
theorem dJ2_getChar_3b067_34 : decode cJ2_getChar_3b067 34 = .ok (.iinc 1 1, 3) := by decide +kernel
theorem dJ2_getChar_3b067_37 : decode cJ2_getChar_3b067 37 = .ok (.baload, 1) := by decide +kernel
theorem dJ2_getChar_3b067_38 : decode cJ2_getChar_3b067 38 = .ok (.sipush 255, 3) := by decide +kernel
theorem dJ2_getChar_3b067_41 : decode cJ2_getChar_3b067 41 = .ok (.iand, 1) := by decide +kernel
theorem dJ2_getChar_3b067_42 : decode cJ2_getChar_3b067 42 = .ok (.getstatic 59, 3) := by decide +kernel
theorem dJ2_getChar_3b067_45 : decode cJ2_getChar_3b067 45 = .ok (.ishl, 1) := by decide +kernel
theorem dJ2_getChar_3b067_46 : decode cJ2_getChar_3b067 46 = .ok (.aload_n 0, 1) := by decide +kernel
theorem dJ2_getChar_3b067_47 : decode cJ2_getChar_3b067 47 = .ok (.iload_n 1, 1) := by decide +kernel
theorem dJ2_getChar_3b067_48 : decode cJ2_getChar_3b067 48 = .ok (.baload, 1) := by decide +kernel
theorem dJ2_getChar_3b067_49 : decode cJ2_getChar_3b067 49 = .ok (.sipush 255, 3) := by decide +kernel
theorem dJ2_getChar_3b067_52 : decode cJ2_getChar_3b067 52 = .ok (.iand, 1) := by decide +kernel
theorem dJ2_getChar_3b067_53 : decode cJ2_getChar_3b067 53 = .ok (.getstatic 63, 3) := by decide +kernel
theorem dJ2_getChar_3b067_56 : decode cJ2_getChar_3b067 56 = .ok (.ishl, 1) := by decide +kernel
theorem dJ2_getChar_3b067_57 : decode cJ2_getChar_3b067 57 = .ok (.ior, 1) := by decide +kernel
theorem dJ2_getChar_3b067_58 : decode cJ2_getChar_3b067 58 = .ok (.i2c, 1) := by decide +kernel
theorem dJ2_getChar_3b067_59 : decode cJ2_getChar_3b067 59 = .ok (.ireturn, 1) := by decide +kernel
theorem dJ2_length_9d52b_0 : decode cJ2_length_9d52b 0 = .ok (.aload_n 0, 1) := by decide +kernel
theorem dJ2_length_9d52b_1 : decode cJ2_length_9d52b 1 = .ok (.arraylength, 1) := by decide +kernel
theorem dJ2_length_9d52b_2 : decode cJ2_length_9d52b 2 = .ok (.iconst 1, 1) := by decide +kernel
theorem dJ2_length_9d52b_3 : decode cJ2_length_9d52b 3 = .ok (.ishr, 1) := by decide +kernel
theorem dJ2_length_9d52b_4 : decode cJ2_length_9d52b 4 = .ok (.ireturn, 1) := by decide +kernel
set_option maxRecDepth 20000 in
theorem ggJ2_charAt_3b067_J2_checkIndex_2214a : GoodIn wsJ2_charAt_3b067 wsJ2_checkIndex_2214a := goodIn_r _ [4, 5, 6, 3, 7, 8, 9, 10, 11, 12, 13, 14, 15, 16] (by decide +kernel) (by decide +kernel)
set_option maxRecDepth 20000 in
theorem gJ2_charAt_3b067_J2_checkIndex_2214a : GoodIn wsJ2_charAt_3b067 (va_wsS RJ2 67 yJ2_checkIndex_2214a wsJ2_checkIndex_2214a) := goodIn_app (goodIn_of _ (by decide +kernel)) ggJ2_charAt_3b067_J2_checkIndex_2214a
set_option maxRecDepth 20000 in
theorem ggJ2_charAt_3b067_J2_getChar_3b067 : GoodIn wsJ2_charAt_3b067 wsJ2_getChar_3b067 := goodIn_r _ [19, 20, 21, 22, 5, 6, 3, 7] (by decide +kernel) (by decide +kernel)
set_option maxRecDepth 20000 in
theorem gJ2_charAt_3b067_J2_getChar_3b067 : GoodIn wsJ2_charAt_3b067 (va_wsS RJ2 71 yJ2_getChar_3b067 wsJ2_getChar_3b067) := goodIn_app (goodIn_of _ (by decide +kernel)) ggJ2_charAt_3b067_J2_getChar_3b067
theorem dJ2_charAt_3b067_0 : decode cJ2_charAt_3b067 0 = .ok (.iload_n 1, 1) := by decide +kernel
theorem dJ2_charAt_3b067_1 : decode cJ2_charAt_3b067 1 = .ok (.aload_n 0, 1) := by decide +kernel
theorem dJ2_charAt_3b067_2 : decode cJ2_charAt_3b067 2 = .ok (.invokestatic 67, 3) := by decide +kernel
theorem dJ2_charAt_3b067_5 : decode cJ2_charAt_3b067 5 = .ok (.aload_n 0, 1) := by decide +kernel
theorem dJ2_charAt_3b067_6 : decode cJ2_charAt_3b067 6 = .ok (.iload_n 1, 1) := by decide +kernel
theorem dJ2_charAt_3b067_7 : decode cJ2_charAt_3b067 7 = .ok (.invokestatic 71, 3) := by decide +kernel
theorem dJ2_charAt_3b067_10 : decode cJ2_charAt_3b067 10 = .ok (.ireturn, 1) := by decide +kernel
set_option maxRecDepth 20000 in
theorem ggJ2_checkIndex_2214a_J2_length_9d52b : GoodIn wsJ2_checkIndex_2214a wsJ2_length_9d52b := goodIn_r _ [4] (by decide +kernel) (by decide +kernel)
set_option maxRecDepth 20000 in
theorem gJ2_checkIndex_2214a_J2_length_9d52b : GoodIn wsJ2_checkIndex_2214a (va_wsS RJ2 48 yJ2_length_9d52b wsJ2_length_9d52b) := goodIn_app (goodIn_of _ (by decide +kernel)) ggJ2_checkIndex_2214a_J2_length_9d52b
set_option maxRecDepth 20000 in
theorem ggJ2_checkIndex_2214a_J0_checkIndex_df160 : GoodIn wsJ2_checkIndex_2214a wsJ0_checkIndex_df160 := goodIn_r _ [8, 9, 10, 11, 12, 13] (by decide +kernel) (by decide +kernel)
set_option maxRecDepth 20000 in
theorem gJ2_checkIndex_2214a_J0_checkIndex_df160 : GoodIn wsJ2_checkIndex_2214a (va_wsS RJ2 414 yJ0_checkIndex_df160 wsJ0_checkIndex_df160) := goodIn_app (goodIn_of _ (by decide +kernel)) ggJ2_checkIndex_2214a_J0_checkIndex_df160
theorem dJ2_checkIndex_2214a_0 : decode cJ2_checkIndex_2214a 0 = .ok (.iload_n 0, 1) := by decide +kernel
theorem dJ2_checkIndex_2214a_1 : decode cJ2_checkIndex_2214a 1 = .ok (.aload_n 1, 1) := by decide +kernel
theorem dJ2_checkIndex_2214a_2 : decode cJ2_checkIndex_2214a 2 = .ok (.invokestatic 48, 3) := by decide +kernel
theorem dJ2_checkIndex_2214a_5 : decode cJ2_checkIndex_2214a 5 = .ok (.invokestatic 414, 3) := by decide +kernel
theorem dJ2_checkIndex_2214a_8 : decode cJ2_checkIndex_2214a 8 = .ok (.return_, 1) := by decide +kernel
theorem dJ3_checkIndex_8e157_0 : decode cJ3_checkIndex_8e157 0 = .ok (.iload_n 0, 1) := by decide +kernel
theorem dJ3_checkIndex_8e157_1 : decode cJ3_checkIndex_8e157 1 = .ok (.ifCond .lt 8, 3) := by decide +kernel
theorem dJ3_checkIndex_8e157_4 : decode cJ3_checkIndex_8e157 4 = .ok (.iload_n 0, 1) := by decide +kernel
theorem dJ3_checkIndex_8e157_5 : decode cJ3_checkIndex_8e157 5 = .ok (.iload_n 1, 1) := by decide +kernel
theorem dJ3_checkIndex_8e157_6 : decode cJ3_checkIndex_8e157 6 = .ok (.if_icmp .lt 10, 3) := by decide +kernel
theorem dJ3_checkIndex_8e157_9 : decode cJ3_checkIndex_8e157 9 = .ok (.aload_n 2, 1) := by decide +kernel
theorem dJ3_checkIndex_8e157_10 : decode cJ3_checkIndex_8e157 10 = .ok (.iload_n 0, 1) := by decide +kernel
theorem dJ3_checkIndex_8e157_11 : decode cJ3_checkIndex_8e157 11 = .ok (.iload_n 1, 1) := by decide +kernel
theorem dJ3_checkIndex_8e157_12 : decode cJ3_checkIndex_8e157 12 = .ok (.invokestatic 95, 3) := by decide +kernel
theorem dJ3_checkIndex_8e157_15 : decode cJ3_checkIndex_8e157 15 = .ok (.athrow, 1) := by decide +kernel
theorem dJ3_checkIndex_8e157_16 : decode cJ3_checkIndex_8e157 16 = .ok (.iload_n 0, 1) := by decide +kernel
theorem dJ3_checkIndex_8e157_17 : decode cJ3_checkIndex_8e157 17 = .ok (.ireturn, 1) := by decide +kernel
set_option maxRecDepth 20000 in
theorem ggL_part_X4_part : GoodIn wsL_part wsX4_part := goodIn_ca (goodIn_r _ [6, 7, 8, 9, 10, 11, 5, 12, 13, 14, 15, 16, 17, 18, 19, 20, 21, 22, 23, 24, 25, 26, 27, 28, 29, 30, 31, 32, 33, 34, 35, 36, 37, 38, 39, 40, 41, 42, 43, 44, 45, 46, 47, 48, 49, 50, 51, 52, 53, 54, 55, 56, 57, 58, 59] (by decide +kernel) (by decide +kernel)) (goodIn_sub (fun _ h => List.mem_cons_of_mem _ (List.mem_append_right _ h)) (by decide +kernel))
set_option maxRecDepth 20000 in
theorem gL_part_X4_part : GoodIn wsL_part (wsV RL 7 RX4 yX4_part wsX4_part) := goodIn_app (goodIn_of _ (by decide +kernel)) ggL_part_X4_part
theorem dL_part_0 : decode cL_part 0 = .ok (.aload_n 3, 1) := by decide +kernel
theorem dL_part_1 : decode cL_part 1 = .ok (.iconst 0, 1) := by decide +kernel
theorem dL_part_2 : decode cL_part 2 = .ok (.aload_n 0, 1) := by decide +kernel
theorem dL_part_3 : decode cL_part 3 = .ok (.iload_n 1, 1) := by decide +kernel
theorem dL_part_4 : decode cL_part 4 = .ok (.iload_n 2, 1) := by decide +kernel
theorem dL_part_5 : decode cL_part 5 = .ok (.invokevirtual 7, 3) := by decide +kernel
theorem dL_part_8 : decode cL_part 8 = .ok (.i2l, 1) := by decide +kernel
theorem dL_part_9 : decode cL_part 9 = .ok (.lastore, 1) := by decide +kernel
theorem dL_part_10 : decode cL_part 10 = .ok (.goto 7, 3) := by decide +kernel
theorem dL_part_13 : decode cL_part 13 = .ok (.astore 4, 2) := by decide +kernel
theorem dL_part_15 : decode cL_part 15 = .ok (.iconst 1, 1) := by decide +kernel
theorem dL_part_16 : decode cL_part 16 = .ok (.ireturn, 1) := by decide +kernel
theorem dL_part_17 : decode cL_part 17 = .ok (.iconst 0, 1) := by decide +kernel
theorem dL_part_18 : decode cL_part 18 = .ok (.ireturn, 1) := by decide +kernel
set_option maxRecDepth 20000 in
theorem ggL_law_X4_init : GoodIn wsL_law wsX4_init := goodIn_r _ [9, 10, 11, 12, 13, 14, 15, 16, 17, 18, 19, 20, 21, 22, 23, 24, 25, 26, 27, 28, 29, 30, 31, 32, 33, 34, 35, 36, 37, 38, 39, 40, 41, 42, 43, 44, 45, 6, 46, 47, 48, 49, 50, 51, 52, 53, 54, 55, 56, 57, 58, 59, 953, 954, 955, 956, 920, 921, 922, 923, 924, 925, 926, 927, 928, 957, 958, 959, 960, 961, 962, 963, 964, 965, 966, 967, 968, 969, 970, 971, 972, 973, 974, 975] (by decide +kernel) (by decide +kernel)
set_option maxRecDepth 20000 in
theorem gL_law_X4_init : GoodIn wsL_law (wsX4_init) := ggL_law_X4_init
set_option maxRecDepth 20000 in
theorem ggL_law_X5_init : GoodIn wsL_law wsX5_init := goodIn_r _ [62, 63, 11, 12, 31, 64, 65, 66, 67, 68, 69, 70, 71, 72, 73, 74, 75, 76, 77, 929, 930, 931, 932, 933, 934, 935, 936, 937, 938, 939, 940, 941, 942, 943, 944, 945, 946, 947, 948, 949, 950, 951, 952] (by decide +kernel) (by decide +kernel)
set_option maxRecDepth 20000 in
theorem gL_law_X5_init : GoodIn wsL_law (wsX5_init) := ggL_law_X5_init
set_option maxRecDepth 20000 in
theorem ggL_law_X4_feed : GoodIn wsL_law wsX4_feed := goodIn_r _ [81, 26, 82, 83, 84, 85, 25, 86, 87, 88, 89, 90, 91, 53, 920, 921, 922, 923, 924, 925, 926, 927, 928, 964, 965, 966, 967, 968, 969, 970, 971, 972, 973] (by decide +kernel) (by decide +kernel)
set_option maxRecDepth 20000 in
theorem gL_law_X4_feed : GoodIn wsL_law (wsV RL 19 RX4 yX4_feed wsX4_feed) := goodIn_app (goodIn_of _ (by decide +kernel)) ggL_law_X4_feed
set_option maxRecDepth 20000 in
theorem ggL_law_X5_feed : GoodIn wsL_law wsX5_feed := goodIn_r _ [95, 96, 97, 98, 99, 100, 5, 101, 64, 929, 930, 931, 932, 933, 934, 935, 936, 937, 938, 939, 940, 941, 942, 943, 944, 945, 946, 947, 948, 949, 950, 951, 952] (by decide +kernel) (by decide +kernel)
set_option maxRecDepth 20000 in
theorem gL_law_X5_feed : GoodIn wsL_law (wsV RL 23 RX5 yX5_feed wsX5_feed) := goodIn_app (goodIn_of _ (by decide +kernel)) ggL_law_X5_feed
set_option maxRecDepth 20000 in
theorem ggL_law_X4_end : GoodIn wsL_law wsX4_end := goodIn_r _ [105, 26, 82, 920, 921, 922, 923, 924, 925, 926, 927, 928, 964, 965, 966, 967, 968, 969, 970, 971, 972, 973] (by decide +kernel) (by decide +kernel)
set_option maxRecDepth 20000 in
theorem gL_law_X4_end : GoodIn wsL_law (wsV RL 24 RX4 yX4_end wsX4_end) := goodIn_app (goodIn_of _ (by decide +kernel)) ggL_law_X4_end
set_option maxRecDepth 20000 in
theorem ggL_law_X5_end : GoodIn wsL_law wsX5_end := goodIn_r _ [109, 96, 97, 929, 930, 931, 932, 933, 934, 935, 936, 937, 938, 939, 940, 941, 942, 943, 944, 945, 946, 947, 948, 949, 950, 951, 952] (by decide +kernel) (by decide +kernel)
set_option maxRecDepth 20000 in
theorem gL_law_X5_end : GoodIn wsL_law (wsV RL 28 RX5 yX5_end wsX5_end) := goodIn_app (goodIn_of _ (by decide +kernel)) ggL_law_X5_end
set_option maxRecDepth 20000 in
theorem ggL_law_X4_text : GoodIn wsL_law wsX4_text := goodIn_r _ [113, 26, 82, 114, 115, 16, 116, 117, 118, 22, 119, 120, 121, 25, 122, 123, 124, 125, 54, 126, 127, 128, 129, 130, 131, 87, 132, 133, 134, 135, 136, 137, 138, 139, 140, 53, 141, 142, 143, 144, 145, 146, 147, 148, 149, 150, 151, 152, 153, 154, 155, 156, 157, 158, 159, 160, 161, 162, 163, 164, 165, 166, 167, 168, 169, 170, 171, 172, 173, 174, 175, 176, 177, 178, 179, 180, 181, 182, 183, 184, 185, 186, 187, 188, 189, 190, 191, 192, 193, 194, 195, 196, 197, 198, 199, 200, 201, 202, 203, 204, 205, 206, 207, 208, 209, 210, 211, 212, 213, 214, 215, 216, 217, 218, 219, 220, 221, 222, 223, 224, 225, 226, 227, 228, 229, 230, 231, 232, 233, 234, 235, 236, 2, 237, 238, 239, 240, 15, 241, 242, 243, 39, 244, 245, 246, 247, 248, 249, 250, 21, 251, 252, 920, 921, 922, 923, 924, 925, 926, 927, 928, 964, 965, 966, 967, 968, 969, 970, 971, 972, 973, 953, 954, 955, 956, 957, 958, 959, 960, 961, 962, 963] (by decide +kernel) (by decide +kernel)
set_option maxRecDepth 20000 in
theorem gL_law_X4_text : GoodIn wsL_law (wsV RL 29 RX4 yX4_text wsX4_text) := goodIn_app (goodIn_of _ (by decide +kernel)) ggL_law_X4_text
set_option maxRecDepth 20000 in
theorem ggL_law_X5_text : GoodIn wsL_law wsX5_text := goodIn_r _ [256, 96, 97, 257, 258, 259, 66, 260, 261, 65, 262, 263, 264, 265, 5, 266, 64, 267, 268, 269, 270, 271, 272, 273, 274, 275, 276, 277, 278, 279, 280, 281, 282, 283, 284, 285, 286, 287, 288, 289, 290, 291, 292, 293, 294, 295, 296, 297, 298, 299, 300, 301, 302, 303, 304, 305, 306, 307, 308, 309, 310, 311, 312, 313, 314, 315, 316, 317, 318, 319, 320, 321, 322, 323, 324, 325, 326, 327, 328, 929, 930, 931, 932, 933, 934, 935, 936, 937, 938, 939, 940, 941, 942, 943, 944, 945, 946, 947, 948, 949, 950, 951, 952] (by decide +kernel) (by decide +kernel)
set_option maxRecDepth 20000 in
theorem gL_law_X5_text : GoodIn wsL_law (wsV RL 33 RX5 yX5_text wsX5_text) := goodIn_app (goodIn_of _ (by decide +kernel)) ggL_law_X5_text
set_option maxRecDepth 20000 in
theorem ggL_law_X4_fault : GoodIn wsL_law wsX4_fault := goodIn_r _ [332, 26, 114, 920, 921, 922, 923, 924, 925, 926, 927, 928, 964, 965, 966, 967, 968, 969, 970, 971, 972, 973] (by decide +kernel) (by decide +kernel)
set_option maxRecDepth 20000 in
theorem gL_law_X4_fault : GoodIn wsL_law (wsV RL 34 RX4 yX4_fault wsX4_fault) := goodIn_app (goodIn_of _ (by decide +kernel)) ggL_law_X4_fault
set_option maxRecDepth 20000 in
theorem ggL_law_X5_fault : GoodIn wsL_law wsX5_fault := goodIn_r _ [336, 96, 258, 929, 930, 931, 932, 933, 934, 935, 936, 937, 938, 939, 940, 941, 942, 943, 944, 945, 946, 947, 948, 949, 950, 951, 952] (by decide +kernel) (by decide +kernel)
set_option maxRecDepth 20000 in
theorem gL_law_X5_fault : GoodIn wsL_law (wsV RL 37 RX5 yX5_fault wsX5_fault) := goodIn_app (goodIn_of _ (by decide +kernel)) ggL_law_X5_fault
set_option maxRecDepth 20000 in
theorem ggL_law_X4_now : GoodIn wsL_law wsX4_now := goodIn_r _ [340, 16, 341, 22, 342, 26, 82, 343, 344, 345, 15, 346, 39, 347, 348, 349, 350, 243, 351, 352, 353, 354, 355, 356, 357, 920, 921, 922, 923, 924, 925, 926, 927, 928, 953, 954, 955, 956, 957, 958, 959, 960, 961, 962, 963, 964, 965, 966, 967, 968, 969, 970, 971, 972, 973] (by decide +kernel) (by decide +kernel)
set_option maxRecDepth 20000 in
theorem gL_law_X4_now : GoodIn wsL_law (wsV RL 38 RX4 yX4_now wsX4_now) := goodIn_app (goodIn_of _ (by decide +kernel)) ggL_law_X4_now
set_option maxRecDepth 20000 in
theorem ggL_law_X5_now : GoodIn wsL_law wsX5_now := goodIn_r _ [361, 96, 262, 97, 362, 363, 364, 5, 365, 65, 366, 367, 368, 369, 370, 371, 372, 373, 374, 375, 376, 377, 306, 307, 308, 313, 314, 315, 929, 930, 931, 932, 933, 934, 935, 936, 937, 938, 939, 940, 941, 942, 943, 944, 945, 946, 947, 948, 949, 950, 951, 952] (by decide +kernel) (by decide +kernel)
set_option maxRecDepth 20000 in
theorem gL_law_X5_now : GoodIn wsL_law (wsV RL 42 RX5 yX5_now wsX5_now) := goodIn_app (goodIn_of _ (by decide +kernel)) ggL_law_X5_now
set_option maxRecDepth 20000 in
theorem ggL_law_X4_weight : GoodIn wsL_law wsX4_weight := goodIn_r _ [381, 16, 382, 383, 384, 385, 15, 386, 387, 388, 389, 390, 242, 920, 921, 922, 923, 924, 925, 926, 927, 928, 953, 954, 955, 956] (by decide +kernel) (by decide +kernel)
set_option maxRecDepth 20000 in
theorem gL_law_X4_weight : GoodIn wsL_law (wsV RL 43 RX4 yX4_weight wsX4_weight) := goodIn_app (goodIn_of _ (by decide +kernel)) ggL_law_X4_weight
set_option maxRecDepth 20000 in
theorem ggL_law_X5_weight : GoodIn wsL_law wsX5_weight := goodIn_r _ [394, 96, 65, 395, 396, 397, 5, 398, 362, 363, 364, 365, 370, 371, 372, 373, 295, 296, 297, 929, 930, 931, 932, 933, 934, 935, 936, 937, 938, 939, 940, 941, 942, 943, 944, 945, 946, 947, 948, 949, 950, 951, 952] (by decide +kernel) (by decide +kernel)
set_option maxRecDepth 20000 in
theorem gL_law_X5_weight : GoodIn wsL_law (wsV RL 46 RX5 yX5_weight wsX5_weight) := goodIn_app (goodIn_of _ (by decide +kernel)) ggL_law_X5_weight
set_option maxRecDepth 20000 in
theorem ggL_law_X4_joined : GoodIn wsL_law wsX4_joined := goodIn_r _ [402, 16, 403, 404, 405, 15, 406, 242, 407, 408, 409, 410, 243, 920, 921, 922, 923, 924, 925, 926, 927, 928, 953, 954, 955, 956] (by decide +kernel) (by decide +kernel)
set_option maxRecDepth 20000 in
theorem gL_law_X4_joined : GoodIn wsL_law (wsV RL 47 RX4 yX4_joined wsX4_joined) := goodIn_app (goodIn_of _ (by decide +kernel)) ggL_law_X4_joined
set_option maxRecDepth 20000 in
theorem ggL_law_X5_joined : GoodIn wsL_law wsX5_joined := goodIn_r _ [414, 96, 65, 415, 416, 417, 5, 418, 362, 363, 364, 365, 295, 296, 297, 929, 930, 931, 932, 933, 934, 935, 936, 937, 938, 939, 940, 941, 942, 943, 944, 945, 946, 947, 948, 949, 950, 951, 952] (by decide +kernel) (by decide +kernel)
set_option maxRecDepth 20000 in
theorem gL_law_X5_joined : GoodIn wsL_law (wsV RL 50 RX5 yX5_joined wsX5_joined) := goodIn_app (goodIn_of _ (by decide +kernel)) ggL_law_X5_joined
set_option maxRecDepth 20000 in
theorem ggL_law_X4_at : GoodIn wsL_law wsX4_at := goodIn_r _ [422, 16, 382, 423, 424, 425, 15, 426, 242, 383, 384, 385, 386, 387, 388, 389, 390, 920, 921, 922, 923, 924, 925, 926, 927, 928, 953, 954, 955, 956] (by decide +kernel) (by decide +kernel)
set_option maxRecDepth 20000 in
theorem gL_law_X4_at : GoodIn wsL_law (wsV RL 51 RX4 yX4_at wsX4_at) := goodIn_app (goodIn_of _ (by decide +kernel)) ggL_law_X4_at
set_option maxRecDepth 20000 in
theorem ggL_law_X5_at : GoodIn wsL_law wsX5_at := goodIn_r _ [430, 96, 431, 432, 433, 5, 434, 362, 363, 364, 365, 65, 295, 296, 297, 395, 396, 397, 398, 370, 371, 372, 373, 435, 436, 437, 438, 929, 930, 931, 932, 933, 934, 935, 936, 937, 938, 939, 940, 941, 942, 943, 944, 945, 946, 947, 948, 949, 950, 951, 952] (by decide +kernel) (by decide +kernel)
set_option maxRecDepth 20000 in
theorem gL_law_X5_at : GoodIn wsL_law (wsV RL 54 RX5 yX5_at wsX5_at) := goodIn_app (goodIn_of _ (by decide +kernel)) ggL_law_X5_at
set_option maxRecDepth 20000 in
theorem ggL_law_X4_put : GoodIn wsL_law wsX4_put := goodIn_r _ [442, 16, 22, 382, 423, 424, 425, 15, 426, 242, 383, 384, 385, 386, 387, 388, 389, 390, 443, 444, 445, 21, 446, 447, 45, 448, 449, 245, 246, 247, 46, 450, 451, 452, 453, 454, 43, 252, 455, 137, 138, 139, 456, 457, 2, 458, 459, 920, 921, 922, 923, 924, 925, 926, 927, 928, 953, 954, 955, 956, 957, 958, 959, 960, 961, 962, 963] (by decide +kernel) (by decide +kernel)
set_option maxRecDepth 20000 in
theorem gL_law_X4_put : GoodIn wsL_law (wsV RL 55 RX4 yX4_put wsX4_put) := goodIn_app (goodIn_of _ (by decide +kernel)) ggL_law_X4_put
set_option maxRecDepth 20000 in
theorem ggL_law_X5_put : GoodIn wsL_law wsX5_put := goodIn_r _ [463, 96, 65, 431, 432, 433, 5, 434, 362, 363, 364, 365, 295, 296, 297, 395, 396, 397, 398, 370, 371, 372, 373, 464, 465, 466, 467, 262, 68, 326, 327, 328, 468, 469, 470, 471, 435, 436, 437, 438, 929, 930, 931, 932, 933, 934, 935, 936, 937, 938, 939, 940, 941, 942, 943, 944, 945, 946, 947, 948, 949, 950, 951, 952] (by decide +kernel) (by decide +kernel)
set_option maxRecDepth 20000 in
theorem gL_law_X5_put : GoodIn wsL_law (wsV RL 59 RX5 yX5_put wsX5_put) := goodIn_app (goodIn_of _ (by decide +kernel)) ggL_law_X5_put
set_option maxRecDepth 20000 in
theorem ggL_law_X4_lay : GoodIn wsL_law wsX4_lay := goodIn_r _ [475, 16, 32, 423, 424, 425, 15, 426, 242, 476, 477, 2, 478, 479, 388, 389, 390, 480, 481, 482, 382, 483, 484, 485, 486, 236, 237, 407, 408, 409, 410, 243, 487, 230, 231, 232, 233, 234, 235, 488, 489, 490, 341, 456, 457, 458, 459, 491, 492, 493, 494, 22, 495, 245, 246, 247, 443, 444, 445, 21, 446, 447, 45, 448, 449, 46, 450, 451, 452, 453, 454, 43, 252, 455, 137, 138, 139, 496, 497, 498, 499, 920, 921, 922, 923, 924, 925, 926, 927, 928, 953, 954, 955, 956, 957, 958, 959, 960, 961, 962, 963] (by decide +kernel) (by decide +kernel)
set_option maxRecDepth 20000 in
theorem gL_law_X4_lay : GoodIn wsL_law (wsV RL 60 RX4 yX4_lay wsX4_lay) := goodIn_app (goodIn_of _ (by decide +kernel)) ggL_law_X4_lay
set_option maxRecDepth 20000 in
theorem ggL_law_X5_lay : GoodIn wsL_law wsX5_lay := goodIn_r _ [503, 96, 71, 431, 432, 433, 5, 434, 362, 363, 364, 365, 65, 295, 296, 297, 370, 371, 372, 373, 504, 505, 506, 507, 374, 375, 376, 377, 306, 307, 308, 313, 314, 315, 508, 509, 510, 511, 468, 469, 470, 471, 512, 513, 514, 515, 516, 517, 518, 519, 464, 465, 466, 467, 262, 68, 326, 327, 328, 929, 930, 931, 932, 933, 934, 935, 936, 937, 938, 939, 940, 941, 942, 943, 944, 945, 946, 947, 948, 949, 950, 951, 952] (by decide +kernel) (by decide +kernel)
set_option maxRecDepth 20000 in
theorem gL_law_X5_lay : GoodIn wsL_law (wsV RL 63 RX5 yX5_lay wsX5_lay) := goodIn_app (goodIn_of _ (by decide +kernel)) ggL_law_X5_lay
set_option maxRecDepth 20000 in
theorem ggL_law_X4_sum : GoodIn wsL_law wsX4_sum := goodIn_r _ [523, 524, 525, 526, 2, 527, 16, 22, 382, 341, 423, 424, 425, 15, 426, 242, 443, 444, 445, 21, 446, 447, 45, 448, 449, 245, 246, 247, 46, 450, 451, 452, 453, 454, 43, 252, 455, 137, 138, 139, 528, 529, 530, 531, 532, 533, 534, 456, 457, 458, 459, 496, 497, 498, 499, 920, 921, 922, 923, 924, 925, 926, 927, 928, 953, 954, 955, 956, 957, 958, 959, 960, 961, 962, 963] (by decide +kernel) (by decide +kernel)
set_option maxRecDepth 20000 in
theorem gL_law_X4_sum : GoodIn wsL_law (wsV RL 64 RX4 yX4_sum wsX4_sum) := goodIn_app (goodIn_of _ (by decide +kernel)) ggL_law_X4_sum
set_option maxRecDepth 20000 in
theorem ggL_law_X5_sum : GoodIn wsL_law wsX5_sum := goodIn_r _ [538, 539, 540, 541, 5, 542, 96, 431, 432, 433, 434, 362, 363, 364, 365, 65, 295, 296, 297, 543, 544, 545, 546, 71, 370, 371, 372, 373, 313, 314, 315, 435, 436, 437, 438, 468, 469, 470, 471, 516, 517, 518, 519, 464, 465, 466, 467, 262, 68, 326, 327, 328, 929, 930, 931, 932, 933, 934, 935, 936, 937, 938, 939, 940, 941, 942, 943, 944, 945, 946, 947, 948, 949, 950, 951, 952] (by decide +kernel) (by decide +kernel)
set_option maxRecDepth 20000 in
theorem gL_law_X5_sum : GoodIn wsL_law (wsV RL 68 RX5 yX5_sum wsX5_sum) := goodIn_app (goodIn_of _ (by decide +kernel)) ggL_law_X5_sum
set_option maxRecDepth 20000 in
theorem ggL_law_X4_back : GoodIn wsL_law wsX4_back := goodIn_r _ [550, 524, 525, 526, 2, 527, 16, 22, 382, 341, 423, 424, 425, 15, 426, 242, 443, 444, 445, 21, 446, 447, 45, 448, 449, 245, 246, 247, 46, 450, 451, 452, 453, 454, 43, 252, 455, 137, 138, 139, 528, 529, 530, 531, 532, 533, 534, 456, 457, 458, 459, 496, 497, 498, 499, 920, 921, 922, 923, 924, 925, 926, 927, 928, 953, 954, 955, 956, 957, 958, 959, 960, 961, 962, 963] (by decide +kernel) (by decide +kernel)
set_option maxRecDepth 20000 in
theorem gL_law_X4_back : GoodIn wsL_law (wsV RL 69 RX4 yX4_back wsX4_back) := goodIn_app (goodIn_of _ (by decide +kernel)) ggL_law_X4_back
set_option maxRecDepth 20000 in
theorem ggL_law_X5_back : GoodIn wsL_law wsX5_back := goodIn_r _ [554, 539, 540, 541, 5, 542, 96, 431, 432, 433, 434, 362, 363, 364, 365, 65, 295, 296, 297, 543, 544, 545, 546, 71, 370, 371, 372, 373, 313, 314, 315, 435, 436, 437, 438, 468, 469, 470, 471, 516, 517, 518, 519, 464, 465, 466, 467, 262, 68, 326, 327, 328, 929, 930, 931, 932, 933, 934, 935, 936, 937, 938, 939, 940, 941, 942, 943, 944, 945, 946, 947, 948, 949, 950, 951, 952] (by decide +kernel) (by decide +kernel)
set_option maxRecDepth 20000 in
theorem gL_law_X5_back : GoodIn wsL_law (wsV RL 72 RX5 yX5_back wsX5_back) := goodIn_app (goodIn_of _ (by decide +kernel)) ggL_law_X5_back
set_option maxRecDepth 20000 in
theorem ggL_law_X4_times : GoodIn wsL_law wsX4_times := goodIn_r _ [558, 16, 382, 32, 423, 424, 425, 15, 426, 242, 559, 560, 561, 2, 562, 479, 388, 389, 390, 456, 457, 458, 459, 563, 564, 565, 566, 495, 245, 246, 247, 33, 341, 528, 529, 530, 531, 532, 533, 534, 567, 568, 569, 491, 492, 493, 494, 22, 443, 444, 445, 21, 446, 447, 45, 448, 449, 46, 450, 451, 452, 453, 454, 43, 252, 455, 137, 138, 139, 496, 497, 498, 499, 920, 921, 922, 923, 924, 925, 926, 927, 928, 953, 954, 955, 956, 957, 958, 959, 960, 961, 962, 963] (by decide +kernel) (by decide +kernel)
set_option maxRecDepth 20000 in
theorem gL_law_X4_times : GoodIn wsL_law (wsV RL 73 RX4 yX4_times wsX4_times) := goodIn_app (goodIn_of _ (by decide +kernel)) ggL_law_X4_times
set_option maxRecDepth 20000 in
theorem ggL_law_X5_times : GoodIn wsL_law wsX5_times := goodIn_r _ [573, 96, 71, 431, 432, 433, 5, 434, 362, 363, 364, 365, 65, 295, 296, 297, 370, 371, 372, 373, 574, 575, 576, 435, 436, 437, 438, 577, 578, 579, 580, 468, 469, 470, 471, 516, 517, 518, 519, 464, 465, 466, 467, 262, 68, 326, 327, 328, 929, 930, 931, 932, 933, 934, 935, 936, 937, 938, 939, 940, 941, 942, 943, 944, 945, 946, 947, 948, 949, 950, 951, 952] (by decide +kernel) (by decide +kernel)
set_option maxRecDepth 20000 in
theorem gL_law_X5_times : GoodIn wsL_law (wsV RL 77 RX5 yX5_times wsX5_times) := goodIn_app (goodIn_of _ (by decide +kernel)) ggL_law_X5_times
set_option maxRecDepth 20000 in
theorem ggL_law_X4_power : GoodIn wsL_law wsX4_power := goodIn_r _ [584, 16, 30, 382, 423, 424, 425, 15, 426, 242, 585, 586, 587, 29, 588, 59, 589, 590, 591, 592, 593, 594, 2, 595, 459, 596, 597, 598, 599, 341, 32, 600, 601, 602, 603, 604, 58, 605, 606, 607, 608, 457, 458, 479, 388, 389, 390, 491, 492, 493, 494, 22, 495, 245, 246, 247, 443, 444, 445, 21, 446, 447, 45, 448, 449, 46, 450, 451, 452, 453, 454, 43, 252, 455, 137, 138, 139, 496, 497, 498, 499, 920, 921, 922, 923, 924, 925, 926, 927, 928, 953, 954, 955, 956, 974, 975, 957, 958, 959, 960, 961, 962, 963] (by decide +kernel) (by decide +kernel)
set_option maxRecDepth 20000 in
theorem gL_law_X4_power : GoodIn wsL_law (wsV RL 78 RX4 yX4_power wsX4_power) := goodIn_app (goodIn_of _ (by decide +kernel)) ggL_law_X4_power
set_option maxRecDepth 20000 in
theorem ggL_law_X5_power : GoodIn wsL_law wsX5_power := goodIn_r _ [612, 96, 431, 432, 433, 5, 434, 362, 363, 364, 365, 65, 295, 296, 297, 613, 614, 615, 616, 71, 370, 371, 372, 373, 617, 618, 619, 620, 72, 471, 435, 436, 437, 438, 468, 469, 470, 516, 517, 518, 519, 464, 465, 466, 467, 262, 68, 326, 327, 328, 929, 930, 931, 932, 933, 934, 935, 936, 937, 938, 939, 940, 941, 942, 943, 944, 945, 946, 947, 948, 949, 950, 951, 952] (by decide +kernel) (by decide +kernel)
set_option maxRecDepth 20000 in
theorem gL_law_X5_power : GoodIn wsL_law (wsV RL 81 RX5 yX5_power wsX5_power) := goodIn_app (goodIn_of _ (by decide +kernel)) ggL_law_X5_power
set_option maxRecDepth 20000 in
theorem ggL_law_X4_inverse : GoodIn wsL_law wsX4_inverse := goodIn_r _ [624, 16, 382, 30, 423, 424, 425, 15, 426, 242, 625, 626, 627, 29, 628, 629, 59, 589, 594, 2, 595, 459, 457, 458, 596, 597, 598, 599, 341, 32, 600, 601, 602, 603, 604, 58, 605, 606, 607, 608, 479, 388, 389, 390, 491, 492, 493, 494, 22, 495, 245, 246, 247, 443, 444, 445, 21, 446, 447, 45, 448, 449, 46, 450, 451, 452, 453, 454, 43, 252, 455, 137, 138, 139, 496, 497, 498, 499, 920, 921, 922, 923, 924, 925, 926, 927, 928, 953, 954, 955, 956, 974, 975, 957, 958, 959, 960, 961, 962, 963] (by decide +kernel) (by decide +kernel)
set_option maxRecDepth 20000 in
theorem gL_law_X4_inverse : GoodIn wsL_law (wsV RL 82 RX4 yX4_inverse wsX4_inverse) := goodIn_app (goodIn_of _ (by decide +kernel)) ggL_law_X4_inverse
set_option maxRecDepth 20000 in
theorem ggL_law_X5_inverse : GoodIn wsL_law wsX5_inverse := goodIn_r _ [633, 96, 71, 471, 431, 432, 433, 5, 434, 362, 363, 364, 365, 65, 295, 296, 297, 435, 436, 437, 438, 634, 635, 636, 637, 370, 371, 372, 373, 468, 469, 470, 516, 517, 518, 519, 464, 465, 466, 467, 262, 68, 326, 327, 328, 929, 930, 931, 932, 933, 934, 935, 936, 937, 938, 939, 940, 941, 942, 943, 944, 945, 946, 947, 948, 949, 950, 951, 952] (by decide +kernel) (by decide +kernel)
set_option maxRecDepth 20000 in
theorem gL_law_X5_inverse : GoodIn wsL_law (wsV RL 85 RX5 yX5_inverse wsX5_inverse) := goodIn_app (goodIn_of _ (by decide +kernel)) ggL_law_X5_inverse
set_option maxRecDepth 20000 in
theorem ggL_law_X4_allWays : GoodIn wsL_law wsX4_allWays := goodIn_r _ [641, 16, 382, 30, 423, 424, 425, 15, 426, 242, 642, 643, 644, 29, 645, 59, 596, 597, 598, 2, 599, 341, 32, 600, 601, 602, 603, 604, 58, 605, 606, 607, 608, 457, 458, 459, 479, 388, 389, 390, 491, 492, 493, 494, 22, 495, 245, 246, 247, 443, 444, 445, 21, 446, 447, 45, 448, 449, 46, 450, 451, 452, 453, 454, 43, 252, 455, 137, 138, 139, 496, 497, 498, 499, 920, 921, 922, 923, 924, 925, 926, 927, 928, 953, 954, 955, 956, 974, 975, 957, 958, 959, 960, 961, 962, 963] (by decide +kernel) (by decide +kernel)
set_option maxRecDepth 20000 in
theorem gL_law_X4_allWays : GoodIn wsL_law (wsV RL 86 RX4 yX4_allWays wsX4_allWays) := goodIn_app (goodIn_of _ (by decide +kernel)) ggL_law_X4_allWays
set_option maxRecDepth 20000 in
theorem ggL_law_X5_allWays : GoodIn wsL_law wsX5_allWays := goodIn_r _ [649, 96, 71, 471, 431, 432, 433, 5, 434, 362, 363, 364, 365, 65, 295, 296, 297, 435, 436, 437, 438, 370, 371, 372, 373, 468, 469, 470, 516, 517, 518, 519, 464, 465, 466, 467, 262, 68, 326, 327, 328, 929, 930, 931, 932, 933, 934, 935, 936, 937, 938, 939, 940, 941, 942, 943, 944, 945, 946, 947, 948, 949, 950, 951, 952] (by decide +kernel) (by decide +kernel)
set_option maxRecDepth 20000 in
theorem gL_law_X5_allWays : GoodIn wsL_law (wsV RL 89 RX5 yX5_allWays wsX5_allWays) := goodIn_app (goodIn_of _ (by decide +kernel)) ggL_law_X5_allWays
set_option maxRecDepth 20000 in
theorem ggL_law_X4_roots : GoodIn wsL_law wsX4_roots := goodIn_r _ [653, 16, 382, 30, 423, 424, 425, 15, 426, 242, 654, 655, 656, 29, 657, 59, 596, 597, 598, 2, 599, 341, 32, 600, 601, 602, 603, 604, 58, 605, 606, 607, 608, 457, 458, 459, 479, 388, 389, 390, 491, 492, 493, 494, 22, 495, 245, 246, 247, 443, 444, 445, 21, 446, 447, 45, 448, 449, 46, 450, 451, 452, 453, 454, 43, 252, 455, 137, 138, 139, 496, 497, 498, 499, 920, 921, 922, 923, 924, 925, 926, 927, 928, 953, 954, 955, 956, 974, 975, 957, 958, 959, 960, 961, 962, 963] (by decide +kernel) (by decide +kernel)
set_option maxRecDepth 20000 in
theorem gL_law_X4_roots : GoodIn wsL_law (wsV RL 90 RX4 yX4_roots wsX4_roots) := goodIn_app (goodIn_of _ (by decide +kernel)) ggL_law_X4_roots
set_option maxRecDepth 20000 in
theorem ggL_law_X5_roots : GoodIn wsL_law wsX5_roots := goodIn_r _ [661, 96, 71, 471, 431, 432, 433, 5, 434, 362, 363, 364, 365, 65, 295, 296, 297, 435, 436, 437, 438, 370, 371, 372, 373, 468, 469, 470, 516, 517, 518, 519, 464, 465, 466, 467, 262, 68, 326, 327, 328, 929, 930, 931, 932, 933, 934, 935, 936, 937, 938, 939, 940, 941, 942, 943, 944, 945, 946, 947, 948, 949, 950, 951, 952] (by decide +kernel) (by decide +kernel)
set_option maxRecDepth 20000 in
theorem gL_law_X5_roots : GoodIn wsL_law (wsV RL 93 RX5 yX5_roots wsX5_roots) := goodIn_app (goodIn_of _ (by decide +kernel)) ggL_law_X5_roots
set_option maxRecDepth 20000 in
theorem ggL_law_X4_covers : GoodIn wsL_law wsX4_covers := goodIn_r _ [665, 16, 32, 341, 383, 384, 385, 15, 386, 387, 388, 389, 390, 242, 476, 477, 2, 478, 479, 480, 481, 482, 382, 483, 484, 485, 486, 236, 237, 407, 408, 409, 410, 243, 487, 230, 231, 232, 233, 234, 235, 488, 489, 490, 528, 529, 530, 531, 532, 533, 534, 456, 457, 458, 459, 666, 594, 595, 920, 921, 922, 923, 924, 925, 926, 927, 928, 953, 954, 955, 956] (by decide +kernel) (by decide +kernel)
set_option maxRecDepth 20000 in
theorem gL_law_X4_covers : GoodIn wsL_law (wsV RL 94 RX4 yX4_covers wsX4_covers) := goodIn_app (goodIn_of _ (by decide +kernel)) ggL_law_X4_covers
set_option maxRecDepth 20000 in
theorem ggL_law_X5_covers : GoodIn wsL_law wsX5_covers := goodIn_r _ [670, 96, 72, 71, 671, 395, 396, 397, 5, 398, 362, 363, 364, 365, 65, 370, 371, 372, 373, 295, 296, 297, 613, 614, 615, 616, 672, 673, 674, 675, 929, 930, 931, 932, 933, 934, 935, 936, 937, 938, 939, 940, 941, 942, 943, 944, 945, 946, 947, 948, 949, 950, 951, 952] (by decide +kernel) (by decide +kernel)
set_option maxRecDepth 20000 in
theorem gL_law_X5_covers : GoodIn wsL_law (wsV RL 97 RX5 yX5_covers wsX5_covers) := goodIn_app (goodIn_of _ (by decide +kernel)) ggL_law_X5_covers
set_option maxRecDepth 20000 in
theorem ggL_law_X4_partings : GoodIn wsL_law wsX4_partings := goodIn_r _ [679, 16, 32, 30, 341, 600, 383, 384, 385, 15, 386, 387, 388, 389, 390, 242, 476, 477, 2, 478, 479, 480, 481, 482, 382, 483, 484, 485, 486, 236, 237, 407, 408, 409, 410, 243, 487, 230, 231, 232, 233, 234, 235, 488, 489, 490, 680, 681, 682, 29, 683, 59, 601, 602, 603, 604, 58, 605, 606, 607, 608, 457, 458, 459, 920, 921, 922, 923, 924, 925, 926, 927, 928, 953, 954, 955, 956, 974, 975] (by decide +kernel) (by decide +kernel)
set_option maxRecDepth 20000 in
theorem gL_law_X4_partings : GoodIn wsL_law (wsV RL 98 RX4 yX4_partings wsX4_partings) := goodIn_app (goodIn_of _ (by decide +kernel)) ggL_law_X4_partings
set_option maxRecDepth 20000 in
theorem ggL_law_X5_partings : GoodIn wsL_law wsX5_partings := goodIn_r _ [687, 96, 73, 395, 396, 397, 5, 398, 362, 363, 364, 365, 65, 370, 371, 372, 373, 295, 296, 297, 688, 689, 690, 691, 672, 673, 674, 675, 929, 930, 931, 932, 933, 934, 935, 936, 937, 938, 939, 940, 941, 942, 943, 944, 945, 946, 947, 948, 949, 950, 951, 952] (by decide +kernel) (by decide +kernel)
set_option maxRecDepth 20000 in
theorem gL_law_X5_partings : GoodIn wsL_law (wsV RL 101 RX5 yX5_partings wsX5_partings) := goodIn_app (goodIn_of _ (by decide +kernel)) ggL_law_X5_partings
set_option maxRecDepth 20000 in
theorem ggL_law_X4_cheapest : GoodIn wsL_law wsX4_cheapest := goodIn_r _ [695, 16, 32, 696, 383, 384, 385, 15, 386, 387, 388, 389, 390, 242, 697, 698, 699, 2, 700, 701, 702, 703, 704, 705, 137, 138, 139, 706, 707, 708, 709, 382, 920, 921, 922, 923, 924, 925, 926, 927, 928, 953, 954, 955, 956] (by decide +kernel) (by decide +kernel)
set_option maxRecDepth 20000 in
theorem gL_law_X4_cheapest : GoodIn wsL_law (wsV RL 102 RX4 yX4_cheapest wsX4_cheapest) := goodIn_app (goodIn_of _ (by decide +kernel)) ggL_law_X4_cheapest
set_option maxRecDepth 20000 in
theorem ggL_law_X5_cheapest : GoodIn wsL_law wsX5_cheapest := goodIn_r _ [713, 96, 74, 395, 396, 397, 5, 398, 362, 363, 364, 365, 65, 370, 371, 372, 373, 295, 296, 297, 714, 715, 716, 717, 672, 673, 674, 675, 929, 930, 931, 932, 933, 934, 935, 936, 937, 938, 939, 940, 941, 942, 943, 944, 945, 946, 947, 948, 949, 950, 951, 952] (by decide +kernel) (by decide +kernel)
set_option maxRecDepth 20000 in
theorem gL_law_X5_cheapest : GoodIn wsL_law (wsV RL 105 RX5 yX5_cheapest wsX5_cheapest) := goodIn_app (goodIn_of _ (by decide +kernel)) ggL_law_X5_cheapest
set_option maxRecDepth 20000 in
theorem ggL_law_L_part : GoodIn wsL_law wsL_part := goodIn_ca (goodIn_r _ [721, 722, 723, 724, 725, 2, 726, 727, 728, 729, 730, 731, 732, 16, 32, 696, 383, 384, 385, 15, 386, 387, 388, 389, 390, 242, 697, 698, 699, 700, 701, 702, 703, 704, 705, 137, 138, 139, 706, 707, 708, 709, 382, 733, 734, 735, 736, 920, 921, 922, 923, 924, 925, 926, 927, 928, 953, 954, 955, 956] (by decide +kernel) (by decide +kernel)) (goodIn_sub (fun _ h => List.mem_append_right _ h) (by decide +kernel))
set_option maxRecDepth 20000 in
theorem gL_law_L_part : GoodIn wsL_law (va_wsS RL 106 yL_part wsL_part) := goodIn_app (goodIn_of _ (by decide +kernel)) ggL_law_L_part
set_option maxRecDepth 20000 in
theorem ggL_law_X5_part : GoodIn wsL_law wsX5_part := goodIn_r _ [740, 96, 74, 65, 395, 396, 397, 5, 398, 362, 363, 364, 365, 370, 371, 372, 373, 295, 296, 297, 741, 742, 743, 744, 714, 715, 716, 717, 672, 673, 674, 675, 929, 930, 931, 932, 933, 934, 935, 936, 937, 938, 939, 940, 941, 942, 943, 944, 945, 946, 947, 948, 949, 950, 951, 952] (by decide +kernel) (by decide +kernel)
set_option maxRecDepth 20000 in
theorem gL_law_X5_part : GoodIn wsL_law (wsV RL 111 RX5 yX5_part wsX5_part) := goodIn_app (goodIn_of _ (by decide +kernel)) ggL_law_X5_part
set_option maxRecDepth 20000 in
theorem ggL_law_X5_thrown : GoodIn wsL_law wsX5_thrown := goodIn_r _ [748, 96, 929, 930, 931, 932, 933, 934, 935, 936, 937, 938, 939, 940, 941, 942, 943, 944, 945, 946, 947, 948, 949, 950, 951, 952] (by decide +kernel) (by decide +kernel)
set_option maxRecDepth 20000 in
theorem gL_law_X5_thrown : GoodIn wsL_law (wsV RL 112 RX5 yX5_thrown wsX5_thrown) := goodIn_app (goodIn_of _ (by decide +kernel)) ggL_law_X5_thrown
set_option maxRecDepth 20000 in
theorem ggL_law_X4_colours : GoodIn wsL_law wsX4_colours := goodIn_r _ [752, 16, 383, 384, 385, 15, 386, 387, 388, 389, 390, 242, 753, 754, 755, 2, 756, 34, 757, 758, 759, 341, 407, 408, 409, 410, 243, 920, 921, 922, 923, 924, 925, 926, 927, 928, 953, 954, 955, 956] (by decide +kernel) (by decide +kernel)
set_option maxRecDepth 20000 in
theorem gL_law_X4_colours : GoodIn wsL_law (wsV RL 115 RX4 yX4_colours wsX4_colours) := goodIn_app (goodIn_of _ (by decide +kernel)) ggL_law_X4_colours
set_option maxRecDepth 20000 in
theorem ggL_law_X5_colours : GoodIn wsL_law wsX5_colours := goodIn_r _ [763, 96, 395, 396, 397, 5, 398, 362, 363, 364, 365, 65, 370, 371, 372, 373, 295, 296, 297, 764, 765, 766, 767, 75, 768, 769, 770, 771, 374, 375, 376, 377, 306, 307, 308, 313, 314, 315, 929, 930, 931, 932, 933, 934, 935, 936, 937, 938, 939, 940, 941, 942, 943, 944, 945, 946, 947, 948, 949, 950, 951, 952] (by decide +kernel) (by decide +kernel)
set_option maxRecDepth 20000 in
theorem gL_law_X5_colours : GoodIn wsL_law (wsV RL 118 RX5 yX5_colours wsX5_colours) := goodIn_app (goodIn_of _ (by decide +kernel)) ggL_law_X5_colours
set_option maxRecDepth 20000 in
theorem ggL_law_X4_colour : GoodIn wsL_law wsX4_colour := goodIn_r _ [775, 16, 34, 383, 384, 385, 15, 386, 387, 388, 389, 390, 242, 403, 404, 405, 406, 753, 754, 755, 2, 756, 757, 758, 759, 341, 407, 408, 409, 410, 243, 920, 921, 922, 923, 924, 925, 926, 927, 928, 953, 954, 955, 956] (by decide +kernel) (by decide +kernel)
set_option maxRecDepth 20000 in
theorem gL_law_X4_colour : GoodIn wsL_law (wsV RL 119 RX4 yX4_colour wsX4_colour) := goodIn_app (goodIn_of _ (by decide +kernel)) ggL_law_X4_colour
set_option maxRecDepth 20000 in
theorem ggL_law_X5_colour : GoodIn wsL_law wsX5_colour := goodIn_r _ [779, 96, 76, 395, 396, 397, 5, 398, 362, 363, 364, 365, 65, 370, 371, 372, 373, 295, 296, 297, 415, 416, 417, 418, 306, 307, 308, 764, 765, 766, 767, 75, 768, 769, 770, 771, 374, 375, 376, 377, 313, 314, 315, 780, 781, 782, 783, 929, 930, 931, 932, 933, 934, 935, 936, 937, 938, 939, 940, 941, 942, 943, 944, 945, 946, 947, 948, 949, 950, 951, 952] (by decide +kernel) (by decide +kernel)
set_option maxRecDepth 20000 in
theorem gL_law_X5_colour : GoodIn wsL_law (wsV RL 122 RX5 yX5_colour wsX5_colour) := goodIn_app (goodIn_of _ (by decide +kernel)) ggL_law_X5_colour
set_option maxRecDepth 20000 in
theorem ggL_law_X4_colourings : GoodIn wsL_law wsX4_colourings := goodIn_r _ [787, 16, 788, 32, 30, 341, 600, 383, 384, 385, 15, 386, 387, 388, 389, 390, 242, 476, 477, 2, 478, 479, 480, 481, 482, 382, 483, 484, 485, 486, 236, 237, 407, 408, 409, 410, 243, 487, 230, 231, 232, 233, 234, 235, 488, 489, 490, 789, 591, 592, 29, 593, 59, 601, 602, 603, 604, 58, 605, 606, 607, 608, 457, 458, 459, 920, 921, 922, 923, 924, 925, 926, 927, 928, 953, 954, 955, 956, 974, 975] (by decide +kernel) (by decide +kernel)
set_option maxRecDepth 20000 in
theorem gL_law_X4_colourings : GoodIn wsL_law (wsV RL 123 RX4 yX4_colourings wsX4_colourings) := goodIn_app (goodIn_of _ (by decide +kernel)) ggL_law_X4_colourings
set_option maxRecDepth 20000 in
theorem ggL_law_X5_colourings : GoodIn wsL_law wsX5_colourings := goodIn_r _ [793, 96, 794, 75, 395, 396, 397, 5, 398, 362, 363, 364, 365, 65, 370, 371, 372, 373, 295, 296, 297, 768, 769, 770, 771, 374, 375, 376, 377, 306, 307, 308, 313, 314, 315, 929, 930, 931, 932, 933, 934, 935, 936, 937, 938, 939, 940, 941, 942, 943, 944, 945, 946, 947, 948, 949, 950, 951, 952] (by decide +kernel) (by decide +kernel)
set_option maxRecDepth 20000 in
theorem gL_law_X5_colourings : GoodIn wsL_law (wsV RL 127 RX5 yX5_colourings wsX5_colourings) := goodIn_app (goodIn_of _ (by decide +kernel)) ggL_law_X5_colourings
set_option maxRecDepth 20000 in
theorem ggL_law_X4_hangs : GoodIn wsL_law wsX4_hangs := goodIn_r _ [798, 16, 32, 30, 341, 600, 383, 384, 385, 15, 386, 387, 388, 389, 390, 242, 476, 477, 2, 478, 479, 480, 481, 482, 382, 483, 484, 485, 486, 236, 237, 407, 408, 409, 410, 243, 487, 230, 231, 232, 233, 234, 235, 488, 489, 490, 654, 655, 656, 29, 657, 59, 601, 602, 603, 604, 58, 605, 606, 607, 608, 457, 458, 459, 920, 921, 922, 923, 924, 925, 926, 927, 928, 953, 954, 955, 956, 974, 975] (by decide +kernel) (by decide +kernel)
set_option maxRecDepth 20000 in
theorem gL_law_X4_hangs : GoodIn wsL_law (wsV RL 128 RX4 yX4_hangs wsX4_hangs) := goodIn_app (goodIn_of _ (by decide +kernel)) ggL_law_X4_hangs
set_option maxRecDepth 20000 in
theorem ggL_law_X5_hangs : GoodIn wsL_law wsX5_hangs := goodIn_r _ [802, 96, 77, 395, 396, 397, 5, 398, 362, 363, 364, 365, 65, 370, 371, 372, 373, 295, 296, 297, 374, 375, 376, 377, 306, 307, 308, 313, 314, 315, 929, 930, 931, 932, 933, 934, 935, 936, 937, 938, 939, 940, 941, 942, 943, 944, 945, 946, 947, 948, 949, 950, 951, 952] (by decide +kernel) (by decide +kernel)
set_option maxRecDepth 20000 in
theorem gL_law_X5_hangs : GoodIn wsL_law (wsV RL 131 RX5 yX5_hangs wsX5_hangs) := goodIn_app (goodIn_of _ (by decide +kernel)) ggL_law_X5_hangs
set_option maxRecDepth 20000 in
theorem ggL_law_X4_weigh : GoodIn wsL_law wsX4_weigh := goodIn_r _ [806, 16, 382, 22, 383, 384, 385, 15, 386, 387, 388, 389, 390, 242, 443, 444, 445, 21, 446, 447, 45, 448, 449, 245, 246, 247, 46, 450, 451, 452, 453, 454, 43, 252, 455, 137, 138, 139, 920, 921, 922, 923, 924, 925, 926, 927, 928, 953, 954, 955, 956, 957, 958, 959, 960, 961, 962, 963] (by decide +kernel) (by decide +kernel)
set_option maxRecDepth 20000 in
theorem gL_law_X4_weigh : GoodIn wsL_law (wsV RL 132 RX4 yX4_weigh wsX4_weigh) := goodIn_app (goodIn_of _ (by decide +kernel)) ggL_law_X4_weigh
set_option maxRecDepth 20000 in
theorem ggL_law_X5_weigh : GoodIn wsL_law wsX5_weigh := goodIn_r _ [810, 96, 65, 395, 396, 397, 5, 398, 362, 363, 364, 365, 370, 371, 372, 373, 295, 296, 297, 464, 465, 466, 467, 262, 68, 326, 327, 328, 929, 930, 931, 932, 933, 934, 935, 936, 937, 938, 939, 940, 941, 942, 943, 944, 945, 946, 947, 948, 949, 950, 951, 952] (by decide +kernel) (by decide +kernel)
set_option maxRecDepth 20000 in
theorem gL_law_X5_weigh : GoodIn wsL_law (wsV RL 135 RX5 yX5_weigh wsX5_weigh) := goodIn_app (goodIn_of _ (by decide +kernel)) ggL_law_X5_weigh
set_option maxRecDepth 20000 in
theorem ggL_law_X4_join : GoodIn wsL_law wsX4_join := goodIn_r _ [814, 16, 22, 403, 404, 405, 15, 406, 242, 815, 816, 817, 818, 819, 408, 409, 410, 243, 443, 444, 445, 21, 446, 447, 45, 448, 449, 245, 246, 247, 46, 450, 451, 452, 453, 454, 43, 252, 455, 137, 138, 139, 820, 821, 822, 823, 347, 348, 349, 350, 351, 352, 353, 354, 355, 356, 357, 920, 921, 922, 923, 924, 925, 926, 927, 928, 953, 954, 955, 956, 957, 958, 959, 960, 961, 962, 963] (by decide +kernel) (by decide +kernel)
set_option maxRecDepth 20000 in
theorem gL_law_X4_join : GoodIn wsL_law (wsV RL 136 RX4 yX4_join wsX4_join) := goodIn_app (goodIn_of _ (by decide +kernel)) ggL_law_X4_join
set_option maxRecDepth 20000 in
theorem ggL_law_X5_join : GoodIn wsL_law wsX5_join := goodIn_r _ [827, 96, 65, 415, 416, 417, 5, 418, 362, 363, 364, 365, 295, 296, 297, 306, 307, 308, 464, 465, 466, 467, 262, 68, 326, 327, 328, 319, 320, 321, 370, 371, 372, 373, 374, 375, 376, 377, 313, 314, 315, 929, 930, 931, 932, 933, 934, 935, 936, 937, 938, 939, 940, 941, 942, 943, 944, 945, 946, 947, 948, 949, 950, 951, 952] (by decide +kernel) (by decide +kernel)
set_option maxRecDepth 20000 in
theorem gL_law_X5_join : GoodIn wsL_law (wsV RL 140 RX5 yX5_join wsX5_join) := goodIn_app (goodIn_of _ (by decide +kernel)) ggL_law_X5_join
set_option maxRecDepth 20000 in
theorem ggL_law_X4_name : GoodIn wsL_law wsX4_name := goodIn_r _ [831, 16, 22, 403, 404, 405, 15, 406, 242, 832, 833, 834, 21, 835, 47, 448, 48, 451, 452, 453, 454, 43, 252, 455, 137, 138, 139, 836, 837, 838, 839, 39, 840, 816, 817, 818, 819, 408, 409, 410, 243, 841, 821, 822, 823, 842, 843, 844, 845, 920, 921, 922, 923, 924, 925, 926, 927, 928, 953, 954, 955, 956, 957, 958, 959, 960, 961, 962, 963] (by decide +kernel) (by decide +kernel)
set_option maxRecDepth 20000 in
theorem gL_law_X4_name : GoodIn wsL_law (wsV RL 141 RX4 yX4_name wsX4_name) := goodIn_app (goodIn_of _ (by decide +kernel)) ggL_law_X4_name
set_option maxRecDepth 20000 in
theorem ggL_law_X5_name : GoodIn wsL_law wsX5_name := goodIn_r _ [849, 96, 72, 65, 415, 416, 417, 5, 418, 362, 363, 364, 365, 295, 296, 297, 464, 465, 466, 467, 262, 68, 326, 327, 328, 370, 371, 372, 373, 672, 673, 674, 675, 306, 307, 308, 850, 851, 852, 853, 854, 855, 856, 929, 930, 931, 932, 933, 934, 935, 936, 937, 938, 939, 940, 941, 942, 943, 944, 945, 946, 947, 948, 949, 950, 951, 952] (by decide +kernel) (by decide +kernel)
set_option maxRecDepth 20000 in
theorem gL_law_X5_name : GoodIn wsL_law (wsV RL 144 RX5 yX5_name wsX5_name) := goodIn_app (goodIn_of _ (by decide +kernel)) ggL_law_X5_name
set_option maxRecDepth 20000 in
theorem ggL_law_X4_drawn : GoodIn wsL_law wsX4_drawn := goodIn_r _ [860, 16, 341, 22, 443, 444, 445, 21, 446, 447, 45, 448, 449, 245, 246, 247, 46, 450, 451, 452, 453, 454, 43, 252, 455, 137, 138, 139, 861, 862, 863, 2, 864, 382, 865, 866, 867, 868, 869, 870, 871, 820, 821, 822, 15, 823, 243, 479, 388, 389, 390, 242, 343, 344, 345, 346, 39, 920, 921, 922, 923, 924, 925, 926, 927, 928, 953, 954, 955, 956, 957, 958, 959, 960, 961, 962, 963] (by decide +kernel) (by decide +kernel)
set_option maxRecDepth 20000 in
theorem gL_law_X4_drawn : GoodIn wsL_law (wsV RL 145 RX4 yX4_drawn wsX4_drawn) := goodIn_app (goodIn_of _ (by decide +kernel)) ggL_law_X4_drawn
set_option maxRecDepth 20000 in
theorem ggL_law_X5_drawn : GoodIn wsL_law wsX5_drawn := goodIn_r _ [875, 96, 876, 295, 296, 5, 297, 362, 363, 364, 365, 65, 464, 465, 466, 467, 262, 68, 326, 327, 328, 877, 878, 879, 880, 881, 882, 883, 884, 885, 319, 320, 321, 370, 371, 372, 373, 366, 367, 368, 369, 929, 930, 931, 932, 933, 934, 935, 936, 937, 938, 939, 940, 941, 942, 943, 944, 945, 946, 947, 948, 949, 950, 951, 952] (by decide +kernel) (by decide +kernel)
set_option maxRecDepth 20000 in
theorem gL_law_X5_drawn : GoodIn wsL_law (wsV RL 148 RX5 yX5_drawn wsX5_drawn) := goodIn_app (goodIn_of _ (by decide +kernel)) ggL_law_X5_drawn
set_option maxRecDepth 20000 in
theorem ggL_law_X4_undo : GoodIn wsL_law wsX4_undo := goodIn_r _ [889, 22, 342, 16, 890, 891, 892, 21, 893, 252, 448, 43, 47, 48, 45, 447, 449, 245, 246, 247, 46, 450, 894, 837, 838, 15, 839, 39, 242, 840, 816, 817, 818, 819, 408, 409, 410, 243, 841, 821, 822, 823, 920, 921, 922, 923, 924, 925, 926, 927, 928, 957, 958, 959, 960, 961, 962, 963, 953, 954, 955, 956] (by decide +kernel) (by decide +kernel)
set_option maxRecDepth 20000 in
theorem gL_law_X4_undo : GoodIn wsL_law (wsV RL 149 RX4 yX4_undo wsX4_undo) := goodIn_app (goodIn_of _ (by decide +kernel)) ggL_law_X4_undo
set_option maxRecDepth 20000 in
theorem ggL_law_X5_undo : GoodIn wsL_law wsX5_undo := goodIn_r _ [898, 96, 262, 68, 65, 326, 327, 5, 328, 929, 930, 931, 932, 933, 934, 935, 936, 937, 938, 939, 940, 941, 942, 943, 944, 945, 946, 947, 948, 949, 950, 951, 952] (by decide +kernel) (by decide +kernel)
set_option maxRecDepth 20000 in
theorem gL_law_X5_undo : GoodIn wsL_law (wsV RL 152 RX5 yX5_undo wsX5_undo) := goodIn_app (goodIn_of _ (by decide +kernel)) ggL_law_X5_undo
set_option maxRecDepth 20000 in
theorem ggL_law_X4_image : GoodIn wsL_law wsX4_image := goodIn_r _ [902, 17, 18, 16, 903, 904, 905, 906, 15, 907, 242, 243, 39, 244, 245, 246, 247, 920, 921, 922, 923, 924, 925, 926, 927, 928, 953, 954, 955, 956] (by decide +kernel) (by decide +kernel)
set_option maxRecDepth 20000 in
theorem gL_law_X4_image : GoodIn wsL_law (wsV RL 153 RX4 yX4_image wsX4_image) := goodIn_app (goodIn_of _ (by decide +kernel)) ggL_law_X4_image
set_option maxRecDepth 20000 in
theorem ggL_law_X5_image : GoodIn wsL_law wsX5_image := goodIn_r _ [911, 96, 65, 67, 70, 295, 296, 5, 297, 326, 327, 328, 929, 930, 931, 932, 933, 934, 935, 936, 937, 938, 939, 940, 941, 942, 943, 944, 945, 946, 947, 948, 949, 950, 951, 952] (by decide +kernel) (by decide +kernel)
set_option maxRecDepth 20000 in
theorem gL_law_X5_image : GoodIn wsL_law (wsV RL 156 RX5 yX5_image wsX5_image) := goodIn_app (goodIn_of _ (by decide +kernel)) ggL_law_X5_image
set_option maxRecDepth 20000 in
theorem ggL_law_X4_restore : GoodIn wsL_law wsX4_restore := goodIn_r _ [915, 17, 18, 903, 16, 22, 904, 905, 906, 15, 907, 242, 243, 39, 244, 245, 246, 247, 248, 249, 250, 21, 251, 252, 920, 921, 922, 923, 924, 925, 926, 927, 928, 953, 954, 955, 956, 957, 958, 959, 960, 961, 962, 963] (by decide +kernel) (by decide +kernel)
set_option maxRecDepth 20000 in
theorem gL_law_X4_restore : GoodIn wsL_law (wsV RL 157 RX4 yX4_restore wsX4_restore) := goodIn_app (goodIn_of _ (by decide +kernel)) ggL_law_X4_restore
set_option maxRecDepth 20000 in
theorem ggL_law_X5_restore : GoodIn wsL_law wsX5_restore := goodIn_r _ [919, 96, 70, 67, 65, 262, 295, 296, 5, 297, 326, 327, 328, 929, 930, 931, 932, 933, 934, 935, 936, 937, 938, 939, 940, 941, 942, 943, 944, 945, 946, 947, 948, 949, 950, 951, 952] (by decide +kernel) (by decide +kernel)
set_option maxRecDepth 20000 in
theorem gL_law_X5_restore : GoodIn wsL_law (wsV RL 160 RX5 yX5_restore wsX5_restore) := goodIn_app (goodIn_of _ (by decide +kernel)) ggL_law_X5_restore
theorem dL_law_0 : decode cL_law 0 = .ok (.new 8, 3) := by decide +kernel
theorem dL_law_3 : decode cL_law 3 = .ok (.dup, 1) := by decide +kernel
theorem dL_law_4 : decode cL_law 4 = .ok (.invokespecial 15, 3) := by decide +kernel
theorem dL_law_7 : decode cL_law 7 = .ok (.astore_n 1, 1) := by decide +kernel
theorem dL_law_8 : decode cL_law 8 = .ok (.new 16, 3) := by decide +kernel
theorem dL_law_11 : decode cL_law 11 = .ok (.dup, 1) := by decide +kernel
theorem dL_law_12 : decode cL_law 12 = .ok (.invokespecial 18, 3) := by decide +kernel
theorem dL_law_15 : decode cL_law 15 = .ok (.astore_n 2, 1) := by decide +kernel
theorem dL_law_16 : decode cL_law 16 = .ok (.iconst 1, 1) := by decide +kernel
theorem dL_law_17 : decode cL_law 17 = .ok (.newarray .long, 2) := by decide +kernel
theorem dL_law_19 : decode cL_law 19 = .ok (.astore_n 3, 1) := by decide +kernel
theorem dL_law_20 : decode cL_law 20 = .ok (.iconst 0, 1) := by decide +kernel
theorem dL_law_21 : decode cL_law 21 = .ok (.istore 4, 2) := by decide +kernel
theorem dL_law_23 : decode cL_law 23 = .ok (.iload 4, 2) := by decide +kernel
theorem dL_law_25 : decode cL_law 25 = .ok (.aload_n 0, 1) := by decide +kernel
theorem dL_law_26 : decode cL_law 26 = .ok (.arraylength, 1) := by decide +kernel
theorem dL_law_27 : decode cL_law 27 = .ok (.bipush 6, 2) := by decide +kernel
theorem dL_law_29 : decode cL_law 29 = .ok (.isub, 1) := by decide +kernel
theorem dL_law_30 : decode cL_law 30 = .ok (.if_icmp .gt 1340, 3) := by decide +kernel
theorem dL_law_33 : decode cL_law 33 = .ok (.aload_n 0, 1) := by decide +kernel
theorem dL_law_34 : decode cL_law 34 = .ok (.iload 4, 2) := by decide +kernel
theorem dL_law_36 : decode cL_law 36 = .ok (.iaload, 1) := by decide +kernel
theorem dL_law_37 : decode cL_law 37 = .ok (.bipush 31, 2) := by decide +kernel
theorem dL_law_39 : decode cL_law 39 = .ok (.iand, 1) := by decide +kernel
theorem dL_law_40 : decode cL_law 40 = .ok (.tableswitch 1324 0 31 #[144, 217, 242, 255, 268, 293, 318, 343, 380, 429, 466, 519, 572, 633, 682, 719, 756, 793, 830, 867, 892, 960, 985, 1022, 1060, 1085, 1122, 1187, 1224, 1261, 1274, 1299], 144) := by decide +kernel
theorem dL_law_184 : decode cL_law 184 = .ok (.aload_n 1, 1) := by decide +kernel
theorem dL_law_185 : decode cL_law 185 = .ok (.aload_n 0, 1) := by decide +kernel
theorem dL_law_186 : decode cL_law 186 = .ok (.iload 4, 2) := by decide +kernel
theorem dL_law_188 : decode cL_law 188 = .ok (.iconst 1, 1) := by decide +kernel
theorem dL_law_189 : decode cL_law 189 = .ok (.iadd, 1) := by decide +kernel
theorem dL_law_190 : decode cL_law 190 = .ok (.iaload, 1) := by decide +kernel
theorem dL_law_191 : decode cL_law 191 = .ok (.aload_n 0, 1) := by decide +kernel
theorem dL_law_192 : decode cL_law 192 = .ok (.iload 4, 2) := by decide +kernel
theorem dL_law_194 : decode cL_law 194 = .ok (.iconst 2, 1) := by decide +kernel
theorem dL_law_195 : decode cL_law 195 = .ok (.iadd, 1) := by decide +kernel
theorem dL_law_196 : decode cL_law 196 = .ok (.iaload, 1) := by decide +kernel
theorem dL_law_197 : decode cL_law 197 = .ok (.aload_n 0, 1) := by decide +kernel
theorem dL_law_198 : decode cL_law 198 = .ok (.iload 4, 2) := by decide +kernel
theorem dL_law_200 : decode cL_law 200 = .ok (.iconst 3, 1) := by decide +kernel
theorem dL_law_201 : decode cL_law 201 = .ok (.iadd, 1) := by decide +kernel
theorem dL_law_202 : decode cL_law 202 = .ok (.iaload, 1) := by decide +kernel
theorem dL_law_203 : decode cL_law 203 = .ok (.aload_n 0, 1) := by decide +kernel
theorem dL_law_204 : decode cL_law 204 = .ok (.iload 4, 2) := by decide +kernel
theorem dL_law_206 : decode cL_law 206 = .ok (.iconst 4, 1) := by decide +kernel
theorem dL_law_207 : decode cL_law 207 = .ok (.iadd, 1) := by decide +kernel
theorem dL_law_208 : decode cL_law 208 = .ok (.iaload, 1) := by decide +kernel
theorem dL_law_209 : decode cL_law 209 = .ok (.aload_n 0, 1) := by decide +kernel
theorem dL_law_210 : decode cL_law 210 = .ok (.iload 4, 2) := by decide +kernel
theorem dL_law_212 : decode cL_law 212 = .ok (.iconst 5, 1) := by decide +kernel
theorem dL_law_213 : decode cL_law 213 = .ok (.iadd, 1) := by decide +kernel
theorem dL_law_214 : decode cL_law 214 = .ok (.iaload, 1) := by decide +kernel
theorem dL_law_215 : decode cL_law 215 = .ok (.invokevirtual 19, 3) := by decide +kernel
theorem dL_law_218 : decode cL_law 218 = .ok (.aload_n 2, 1) := by decide +kernel
theorem dL_law_219 : decode cL_law 219 = .ok (.aload_n 0, 1) := by decide +kernel
theorem dL_law_220 : decode cL_law 220 = .ok (.iload 4, 2) := by decide +kernel
theorem dL_law_222 : decode cL_law 222 = .ok (.iconst 1, 1) := by decide +kernel
theorem dL_law_223 : decode cL_law 223 = .ok (.iadd, 1) := by decide +kernel
theorem dL_law_224 : decode cL_law 224 = .ok (.iaload, 1) := by decide +kernel
theorem dL_law_225 : decode cL_law 225 = .ok (.aload_n 0, 1) := by decide +kernel
theorem dL_law_226 : decode cL_law 226 = .ok (.iload 4, 2) := by decide +kernel
theorem dL_law_228 : decode cL_law 228 = .ok (.iconst 2, 1) := by decide +kernel
theorem dL_law_229 : decode cL_law 229 = .ok (.iadd, 1) := by decide +kernel
theorem dL_law_230 : decode cL_law 230 = .ok (.iaload, 1) := by decide +kernel
theorem dL_law_231 : decode cL_law 231 = .ok (.aload_n 0, 1) := by decide +kernel
theorem dL_law_232 : decode cL_law 232 = .ok (.iload 4, 2) := by decide +kernel
theorem dL_law_234 : decode cL_law 234 = .ok (.iconst 3, 1) := by decide +kernel
theorem dL_law_235 : decode cL_law 235 = .ok (.iadd, 1) := by decide +kernel
theorem dL_law_236 : decode cL_law 236 = .ok (.iaload, 1) := by decide +kernel
theorem dL_law_237 : decode cL_law 237 = .ok (.aload_n 0, 1) := by decide +kernel
theorem dL_law_238 : decode cL_law 238 = .ok (.iload 4, 2) := by decide +kernel
theorem dL_law_240 : decode cL_law 240 = .ok (.iconst 4, 1) := by decide +kernel
theorem dL_law_241 : decode cL_law 241 = .ok (.iadd, 1) := by decide +kernel
theorem dL_law_242 : decode cL_law 242 = .ok (.iaload, 1) := by decide +kernel
theorem dL_law_243 : decode cL_law 243 = .ok (.aload_n 0, 1) := by decide +kernel
theorem dL_law_244 : decode cL_law 244 = .ok (.iload 4, 2) := by decide +kernel
theorem dL_law_246 : decode cL_law 246 = .ok (.iconst 5, 1) := by decide +kernel
theorem dL_law_247 : decode cL_law 247 = .ok (.iadd, 1) := by decide +kernel
theorem dL_law_248 : decode cL_law 248 = .ok (.iaload, 1) := by decide +kernel
theorem dL_law_249 : decode cL_law 249 = .ok (.invokevirtual 23, 3) := by decide +kernel
theorem dL_law_252 : decode cL_law 252 = .ok (.if_icmp .eq 1112, 3) := by decide +kernel
theorem dL_law_255 : decode cL_law 255 = .ok (.iconst 0, 1) := by decide +kernel
theorem dL_law_256 : decode cL_law 256 = .ok (.ireturn, 1) := by decide +kernel
theorem dL_law_257 : decode cL_law 257 = .ok (.aload_n 1, 1) := by decide +kernel
theorem dL_law_258 : decode cL_law 258 = .ok (.aload_n 0, 1) := by decide +kernel
theorem dL_law_259 : decode cL_law 259 = .ok (.iload 4, 2) := by decide +kernel
theorem dL_law_261 : decode cL_law 261 = .ok (.iconst 1, 1) := by decide +kernel
theorem dL_law_262 : decode cL_law 262 = .ok (.iadd, 1) := by decide +kernel
theorem dL_law_263 : decode cL_law 263 = .ok (.iaload, 1) := by decide +kernel
theorem dL_law_264 : decode cL_law 264 = .ok (.invokevirtual 24, 3) := by decide +kernel
theorem dL_law_267 : decode cL_law 267 = .ok (.aload_n 2, 1) := by decide +kernel
theorem dL_law_268 : decode cL_law 268 = .ok (.aload_n 0, 1) := by decide +kernel
theorem dL_law_269 : decode cL_law 269 = .ok (.iload 4, 2) := by decide +kernel
theorem dL_law_271 : decode cL_law 271 = .ok (.iconst 1, 1) := by decide +kernel
theorem dL_law_272 : decode cL_law 272 = .ok (.iadd, 1) := by decide +kernel
theorem dL_law_273 : decode cL_law 273 = .ok (.iaload, 1) := by decide +kernel
theorem dL_law_274 : decode cL_law 274 = .ok (.invokevirtual 28, 3) := by decide +kernel
theorem dL_law_277 : decode cL_law 277 = .ok (.if_icmp .eq 1087, 3) := by decide +kernel
theorem dL_law_280 : decode cL_law 280 = .ok (.iconst 0, 1) := by decide +kernel
theorem dL_law_281 : decode cL_law 281 = .ok (.ireturn, 1) := by decide +kernel
theorem dL_law_282 : decode cL_law 282 = .ok (.aload_n 1, 1) := by decide +kernel
theorem dL_law_283 : decode cL_law 283 = .ok (.invokevirtual 29, 3) := by decide +kernel
theorem dL_law_286 : decode cL_law 286 = .ok (.aload_n 2, 1) := by decide +kernel
theorem dL_law_287 : decode cL_law 287 = .ok (.invokevirtual 33, 3) := by decide +kernel
theorem dL_law_290 : decode cL_law 290 = .ok (.if_icmp .eq 1074, 3) := by decide +kernel
theorem dL_law_293 : decode cL_law 293 = .ok (.iconst 0, 1) := by decide +kernel
theorem dL_law_294 : decode cL_law 294 = .ok (.ireturn, 1) := by decide +kernel
theorem dL_law_295 : decode cL_law 295 = .ok (.aload_n 1, 1) := by decide +kernel
theorem dL_law_296 : decode cL_law 296 = .ok (.invokevirtual 34, 3) := by decide +kernel
theorem dL_law_299 : decode cL_law 299 = .ok (.aload_n 2, 1) := by decide +kernel
theorem dL_law_300 : decode cL_law 300 = .ok (.invokevirtual 37, 3) := by decide +kernel
theorem dL_law_303 : decode cL_law 303 = .ok (.if_icmp .eq 1061, 3) := by decide +kernel
theorem dL_law_306 : decode cL_law 306 = .ok (.iconst 0, 1) := by decide +kernel
theorem dL_law_307 : decode cL_law 307 = .ok (.ireturn, 1) := by decide +kernel
theorem dL_law_308 : decode cL_law 308 = .ok (.aload_n 1, 1) := by decide +kernel
theorem dL_law_309 : decode cL_law 309 = .ok (.aload_n 0, 1) := by decide +kernel
theorem dL_law_310 : decode cL_law 310 = .ok (.iload 4, 2) := by decide +kernel
theorem dL_law_312 : decode cL_law 312 = .ok (.iconst 1, 1) := by decide +kernel
theorem dL_law_313 : decode cL_law 313 = .ok (.iadd, 1) := by decide +kernel
theorem dL_law_314 : decode cL_law 314 = .ok (.iaload, 1) := by decide +kernel
theorem dL_law_315 : decode cL_law 315 = .ok (.invokevirtual 38, 3) := by decide +kernel
theorem dL_law_318 : decode cL_law 318 = .ok (.aload_n 2, 1) := by decide +kernel
theorem dL_law_319 : decode cL_law 319 = .ok (.aload_n 0, 1) := by decide +kernel
theorem dL_law_320 : decode cL_law 320 = .ok (.iload 4, 2) := by decide +kernel
theorem dL_law_322 : decode cL_law 322 = .ok (.iconst 1, 1) := by decide +kernel
theorem dL_law_323 : decode cL_law 323 = .ok (.iadd, 1) := by decide +kernel
theorem dL_law_324 : decode cL_law 324 = .ok (.iaload, 1) := by decide +kernel
theorem dL_law_325 : decode cL_law 325 = .ok (.invokevirtual 42, 3) := by decide +kernel
theorem dL_law_328 : decode cL_law 328 = .ok (.if_icmp .eq 1036, 3) := by decide +kernel
theorem dL_law_331 : decode cL_law 331 = .ok (.iconst 0, 1) := by decide +kernel
theorem dL_law_332 : decode cL_law 332 = .ok (.ireturn, 1) := by decide +kernel
theorem dL_law_333 : decode cL_law 333 = .ok (.aload_n 1, 1) := by decide +kernel
theorem dL_law_334 : decode cL_law 334 = .ok (.aload_n 0, 1) := by decide +kernel
theorem dL_law_335 : decode cL_law 335 = .ok (.iload 4, 2) := by decide +kernel
theorem dL_law_337 : decode cL_law 337 = .ok (.iconst 1, 1) := by decide +kernel
theorem dL_law_338 : decode cL_law 338 = .ok (.iadd, 1) := by decide +kernel
theorem dL_law_339 : decode cL_law 339 = .ok (.iaload, 1) := by decide +kernel
theorem dL_law_340 : decode cL_law 340 = .ok (.invokevirtual 43, 3) := by decide +kernel
theorem dL_law_343 : decode cL_law 343 = .ok (.aload_n 2, 1) := by decide +kernel
theorem dL_law_344 : decode cL_law 344 = .ok (.aload_n 0, 1) := by decide +kernel
theorem dL_law_345 : decode cL_law 345 = .ok (.iload 4, 2) := by decide +kernel
theorem dL_law_347 : decode cL_law 347 = .ok (.iconst 1, 1) := by decide +kernel
theorem dL_law_348 : decode cL_law 348 = .ok (.iadd, 1) := by decide +kernel
theorem dL_law_349 : decode cL_law 349 = .ok (.iaload, 1) := by decide +kernel
theorem dL_law_350 : decode cL_law 350 = .ok (.invokevirtual 46, 3) := by decide +kernel
theorem dL_law_353 : decode cL_law 353 = .ok (.if_icmp .eq 1011, 3) := by decide +kernel
theorem dL_law_356 : decode cL_law 356 = .ok (.iconst 0, 1) := by decide +kernel
theorem dL_law_357 : decode cL_law 357 = .ok (.ireturn, 1) := by decide +kernel
theorem dL_law_358 : decode cL_law 358 = .ok (.aload_n 1, 1) := by decide +kernel
theorem dL_law_359 : decode cL_law 359 = .ok (.aload_n 0, 1) := by decide +kernel
theorem dL_law_360 : decode cL_law 360 = .ok (.iload 4, 2) := by decide +kernel
theorem dL_law_362 : decode cL_law 362 = .ok (.iconst 1, 1) := by decide +kernel
theorem dL_law_363 : decode cL_law 363 = .ok (.iadd, 1) := by decide +kernel
theorem dL_law_364 : decode cL_law 364 = .ok (.iaload, 1) := by decide +kernel
theorem dL_law_365 : decode cL_law 365 = .ok (.invokevirtual 47, 3) := by decide +kernel
theorem dL_law_368 : decode cL_law 368 = .ok (.aload_n 2, 1) := by decide +kernel
theorem dL_law_369 : decode cL_law 369 = .ok (.aload_n 0, 1) := by decide +kernel
theorem dL_law_370 : decode cL_law 370 = .ok (.iload 4, 2) := by decide +kernel
theorem dL_law_372 : decode cL_law 372 = .ok (.iconst 1, 1) := by decide +kernel
theorem dL_law_373 : decode cL_law 373 = .ok (.iadd, 1) := by decide +kernel
theorem dL_law_374 : decode cL_law 374 = .ok (.iaload, 1) := by decide +kernel
theorem dL_law_375 : decode cL_law 375 = .ok (.invokevirtual 50, 3) := by decide +kernel
theorem dL_law_378 : decode cL_law 378 = .ok (.if_icmp .eq 986, 3) := by decide +kernel
theorem dL_law_381 : decode cL_law 381 = .ok (.iconst 0, 1) := by decide +kernel
theorem dL_law_382 : decode cL_law 382 = .ok (.ireturn, 1) := by decide +kernel
theorem dL_law_383 : decode cL_law 383 = .ok (.aload_n 1, 1) := by decide +kernel
theorem dL_law_384 : decode cL_law 384 = .ok (.aload_n 0, 1) := by decide +kernel
theorem dL_law_385 : decode cL_law 385 = .ok (.iload 4, 2) := by decide +kernel
theorem dL_law_387 : decode cL_law 387 = .ok (.iconst 1, 1) := by decide +kernel
theorem dL_law_388 : decode cL_law 388 = .ok (.iadd, 1) := by decide +kernel
theorem dL_law_389 : decode cL_law 389 = .ok (.iaload, 1) := by decide +kernel
theorem dL_law_390 : decode cL_law 390 = .ok (.aload_n 0, 1) := by decide +kernel
theorem dL_law_391 : decode cL_law 391 = .ok (.iload 4, 2) := by decide +kernel
theorem dL_law_393 : decode cL_law 393 = .ok (.iconst 2, 1) := by decide +kernel
theorem dL_law_394 : decode cL_law 394 = .ok (.iadd, 1) := by decide +kernel
theorem dL_law_395 : decode cL_law 395 = .ok (.iaload, 1) := by decide +kernel
theorem dL_law_396 : decode cL_law 396 = .ok (.invokevirtual 51, 3) := by decide +kernel
theorem dL_law_399 : decode cL_law 399 = .ok (.aload_n 2, 1) := by decide +kernel
theorem dL_law_400 : decode cL_law 400 = .ok (.aload_n 0, 1) := by decide +kernel
theorem dL_law_401 : decode cL_law 401 = .ok (.iload 4, 2) := by decide +kernel
theorem dL_law_403 : decode cL_law 403 = .ok (.iconst 1, 1) := by decide +kernel
theorem dL_law_404 : decode cL_law 404 = .ok (.iadd, 1) := by decide +kernel
theorem dL_law_405 : decode cL_law 405 = .ok (.iaload, 1) := by decide +kernel
theorem dL_law_406 : decode cL_law 406 = .ok (.aload_n 0, 1) := by decide +kernel
theorem dL_law_407 : decode cL_law 407 = .ok (.iload 4, 2) := by decide +kernel
theorem dL_law_409 : decode cL_law 409 = .ok (.iconst 2, 1) := by decide +kernel
theorem dL_law_410 : decode cL_law 410 = .ok (.iadd, 1) := by decide +kernel
theorem dL_law_411 : decode cL_law 411 = .ok (.iaload, 1) := by decide +kernel
theorem dL_law_412 : decode cL_law 412 = .ok (.invokevirtual 54, 3) := by decide +kernel
theorem dL_law_415 : decode cL_law 415 = .ok (.if_icmp .eq 949, 3) := by decide +kernel
theorem dL_law_418 : decode cL_law 418 = .ok (.iconst 0, 1) := by decide +kernel
theorem dL_law_419 : decode cL_law 419 = .ok (.ireturn, 1) := by decide +kernel
theorem dL_law_420 : decode cL_law 420 = .ok (.aload_n 1, 1) := by decide +kernel
theorem dL_law_421 : decode cL_law 421 = .ok (.aload_n 0, 1) := by decide +kernel
theorem dL_law_422 : decode cL_law 422 = .ok (.iload 4, 2) := by decide +kernel
theorem dL_law_424 : decode cL_law 424 = .ok (.iconst 1, 1) := by decide +kernel
theorem dL_law_425 : decode cL_law 425 = .ok (.iadd, 1) := by decide +kernel
theorem dL_law_426 : decode cL_law 426 = .ok (.iaload, 1) := by decide +kernel
theorem dL_law_427 : decode cL_law 427 = .ok (.aload_n 0, 1) := by decide +kernel
theorem dL_law_428 : decode cL_law 428 = .ok (.iload 4, 2) := by decide +kernel
theorem dL_law_430 : decode cL_law 430 = .ok (.iconst 2, 1) := by decide +kernel
theorem dL_law_431 : decode cL_law 431 = .ok (.iadd, 1) := by decide +kernel
theorem dL_law_432 : decode cL_law 432 = .ok (.iaload, 1) := by decide +kernel
theorem dL_law_433 : decode cL_law 433 = .ok (.aload_n 0, 1) := by decide +kernel
theorem dL_law_434 : decode cL_law 434 = .ok (.iload 4, 2) := by decide +kernel
theorem dL_law_436 : decode cL_law 436 = .ok (.iconst 3, 1) := by decide +kernel
theorem dL_law_437 : decode cL_law 437 = .ok (.iadd, 1) := by decide +kernel
theorem dL_law_438 : decode cL_law 438 = .ok (.iaload, 1) := by decide +kernel
theorem dL_law_439 : decode cL_law 439 = .ok (.invokevirtual 55, 3) := by decide +kernel
theorem dL_law_442 : decode cL_law 442 = .ok (.aload_n 2, 1) := by decide +kernel
theorem dL_law_443 : decode cL_law 443 = .ok (.aload_n 0, 1) := by decide +kernel
theorem dL_law_444 : decode cL_law 444 = .ok (.iload 4, 2) := by decide +kernel
theorem dL_law_446 : decode cL_law 446 = .ok (.iconst 1, 1) := by decide +kernel
theorem dL_law_447 : decode cL_law 447 = .ok (.iadd, 1) := by decide +kernel
theorem dL_law_448 : decode cL_law 448 = .ok (.iaload, 1) := by decide +kernel
theorem dL_law_449 : decode cL_law 449 = .ok (.aload_n 0, 1) := by decide +kernel
theorem dL_law_450 : decode cL_law 450 = .ok (.iload 4, 2) := by decide +kernel
theorem dL_law_452 : decode cL_law 452 = .ok (.iconst 2, 1) := by decide +kernel
theorem dL_law_453 : decode cL_law 453 = .ok (.iadd, 1) := by decide +kernel
theorem dL_law_454 : decode cL_law 454 = .ok (.iaload, 1) := by decide +kernel
theorem dL_law_455 : decode cL_law 455 = .ok (.aload_n 0, 1) := by decide +kernel
theorem dL_law_456 : decode cL_law 456 = .ok (.iload 4, 2) := by decide +kernel
theorem dL_law_458 : decode cL_law 458 = .ok (.iconst 3, 1) := by decide +kernel
theorem dL_law_459 : decode cL_law 459 = .ok (.iadd, 1) := by decide +kernel
theorem dL_law_460 : decode cL_law 460 = .ok (.iaload, 1) := by decide +kernel
theorem dL_law_461 : decode cL_law 461 = .ok (.invokevirtual 59, 3) := by decide +kernel
theorem dL_law_464 : decode cL_law 464 = .ok (.if_icmp .eq 900, 3) := by decide +kernel
theorem dL_law_467 : decode cL_law 467 = .ok (.iconst 0, 1) := by decide +kernel
theorem dL_law_468 : decode cL_law 468 = .ok (.ireturn, 1) := by decide +kernel
theorem dL_law_469 : decode cL_law 469 = .ok (.aload_n 1, 1) := by decide +kernel
theorem dL_law_470 : decode cL_law 470 = .ok (.aload_n 0, 1) := by decide +kernel
theorem dL_law_471 : decode cL_law 471 = .ok (.iload 4, 2) := by decide +kernel
theorem dL_law_473 : decode cL_law 473 = .ok (.iconst 1, 1) := by decide +kernel
theorem dL_law_474 : decode cL_law 474 = .ok (.iadd, 1) := by decide +kernel
theorem dL_law_475 : decode cL_law 475 = .ok (.iaload, 1) := by decide +kernel
theorem dL_law_476 : decode cL_law 476 = .ok (.aload_n 0, 1) := by decide +kernel
theorem dL_law_477 : decode cL_law 477 = .ok (.iload 4, 2) := by decide +kernel
theorem dL_law_479 : decode cL_law 479 = .ok (.iconst 2, 1) := by decide +kernel
theorem dL_law_480 : decode cL_law 480 = .ok (.iadd, 1) := by decide +kernel
theorem dL_law_481 : decode cL_law 481 = .ok (.iaload, 1) := by decide +kernel
theorem dL_law_482 : decode cL_law 482 = .ok (.invokevirtual 60, 3) := by decide +kernel
theorem dL_law_485 : decode cL_law 485 = .ok (.aload_n 2, 1) := by decide +kernel
theorem dL_law_486 : decode cL_law 486 = .ok (.aload_n 0, 1) := by decide +kernel
theorem dL_law_487 : decode cL_law 487 = .ok (.iload 4, 2) := by decide +kernel
theorem dL_law_489 : decode cL_law 489 = .ok (.iconst 1, 1) := by decide +kernel
theorem dL_law_490 : decode cL_law 490 = .ok (.iadd, 1) := by decide +kernel
theorem dL_law_491 : decode cL_law 491 = .ok (.iaload, 1) := by decide +kernel
theorem dL_law_492 : decode cL_law 492 = .ok (.aload_n 0, 1) := by decide +kernel
theorem dL_law_493 : decode cL_law 493 = .ok (.iload 4, 2) := by decide +kernel
theorem dL_law_495 : decode cL_law 495 = .ok (.iconst 2, 1) := by decide +kernel
theorem dL_law_496 : decode cL_law 496 = .ok (.iadd, 1) := by decide +kernel
theorem dL_law_497 : decode cL_law 497 = .ok (.iaload, 1) := by decide +kernel
theorem dL_law_498 : decode cL_law 498 = .ok (.invokevirtual 63, 3) := by decide +kernel
theorem dL_law_501 : decode cL_law 501 = .ok (.if_icmp .eq 863, 3) := by decide +kernel
theorem dL_law_504 : decode cL_law 504 = .ok (.iconst 0, 1) := by decide +kernel
theorem dL_law_505 : decode cL_law 505 = .ok (.ireturn, 1) := by decide +kernel
theorem dL_law_506 : decode cL_law 506 = .ok (.aload_n 1, 1) := by decide +kernel
theorem dL_law_507 : decode cL_law 507 = .ok (.aload_n 0, 1) := by decide +kernel
theorem dL_law_508 : decode cL_law 508 = .ok (.iload 4, 2) := by decide +kernel
theorem dL_law_510 : decode cL_law 510 = .ok (.iconst 1, 1) := by decide +kernel
theorem dL_law_511 : decode cL_law 511 = .ok (.iadd, 1) := by decide +kernel
theorem dL_law_512 : decode cL_law 512 = .ok (.iaload, 1) := by decide +kernel
theorem dL_law_513 : decode cL_law 513 = .ok (.aload_n 0, 1) := by decide +kernel
theorem dL_law_514 : decode cL_law 514 = .ok (.iload 4, 2) := by decide +kernel
theorem dL_law_516 : decode cL_law 516 = .ok (.iconst 2, 1) := by decide +kernel
theorem dL_law_517 : decode cL_law 517 = .ok (.iadd, 1) := by decide +kernel
theorem dL_law_518 : decode cL_law 518 = .ok (.iaload, 1) := by decide +kernel
theorem dL_law_519 : decode cL_law 519 = .ok (.ifCond .eq 7, 3) := by decide +kernel
theorem dL_law_522 : decode cL_law 522 = .ok (.iconst 1, 1) := by decide +kernel
theorem dL_law_523 : decode cL_law 523 = .ok (.goto 4, 3) := by decide +kernel
theorem dL_law_526 : decode cL_law 526 = .ok (.iconst 0, 1) := by decide +kernel
theorem dL_law_527 : decode cL_law 527 = .ok (.invokevirtual 64, 3) := by decide +kernel
theorem dL_law_530 : decode cL_law 530 = .ok (.aload_n 2, 1) := by decide +kernel
theorem dL_law_531 : decode cL_law 531 = .ok (.aload_n 0, 1) := by decide +kernel
theorem dL_law_532 : decode cL_law 532 = .ok (.iload 4, 2) := by decide +kernel
theorem dL_law_534 : decode cL_law 534 = .ok (.iconst 1, 1) := by decide +kernel
theorem dL_law_535 : decode cL_law 535 = .ok (.iadd, 1) := by decide +kernel
theorem dL_law_536 : decode cL_law 536 = .ok (.iaload, 1) := by decide +kernel
theorem dL_law_537 : decode cL_law 537 = .ok (.aload_n 0, 1) := by decide +kernel
theorem dL_law_538 : decode cL_law 538 = .ok (.iload 4, 2) := by decide +kernel
theorem dL_law_540 : decode cL_law 540 = .ok (.iconst 2, 1) := by decide +kernel
theorem dL_law_541 : decode cL_law 541 = .ok (.iadd, 1) := by decide +kernel
theorem dL_law_542 : decode cL_law 542 = .ok (.iaload, 1) := by decide +kernel
theorem dL_law_543 : decode cL_law 543 = .ok (.ifCond .eq 7, 3) := by decide +kernel
theorem dL_law_546 : decode cL_law 546 = .ok (.iconst 1, 1) := by decide +kernel
theorem dL_law_547 : decode cL_law 547 = .ok (.goto 4, 3) := by decide +kernel
theorem dL_law_550 : decode cL_law 550 = .ok (.iconst 0, 1) := by decide +kernel
theorem dL_law_551 : decode cL_law 551 = .ok (.invokevirtual 68, 3) := by decide +kernel
theorem dL_law_554 : decode cL_law 554 = .ok (.if_icmp .eq 810, 3) := by decide +kernel
theorem dL_law_557 : decode cL_law 557 = .ok (.iconst 0, 1) := by decide +kernel
theorem dL_law_558 : decode cL_law 558 = .ok (.ireturn, 1) := by decide +kernel
theorem dL_law_559 : decode cL_law 559 = .ok (.aload_n 1, 1) := by decide +kernel
theorem dL_law_560 : decode cL_law 560 = .ok (.aload_n 0, 1) := by decide +kernel
theorem dL_law_561 : decode cL_law 561 = .ok (.iload 4, 2) := by decide +kernel
theorem dL_law_563 : decode cL_law 563 = .ok (.iconst 1, 1) := by decide +kernel
theorem dL_law_564 : decode cL_law 564 = .ok (.iadd, 1) := by decide +kernel
theorem dL_law_565 : decode cL_law 565 = .ok (.iaload, 1) := by decide +kernel
theorem dL_law_566 : decode cL_law 566 = .ok (.aload_n 0, 1) := by decide +kernel
theorem dL_law_567 : decode cL_law 567 = .ok (.iload 4, 2) := by decide +kernel
theorem dL_law_569 : decode cL_law 569 = .ok (.iconst 2, 1) := by decide +kernel
theorem dL_law_570 : decode cL_law 570 = .ok (.iadd, 1) := by decide +kernel
theorem dL_law_571 : decode cL_law 571 = .ok (.iaload, 1) := by decide +kernel
theorem dL_law_572 : decode cL_law 572 = .ok (.ifCond .eq 7, 3) := by decide +kernel
theorem dL_law_575 : decode cL_law 575 = .ok (.iconst 1, 1) := by decide +kernel
theorem dL_law_576 : decode cL_law 576 = .ok (.goto 4, 3) := by decide +kernel
theorem dL_law_579 : decode cL_law 579 = .ok (.iconst 0, 1) := by decide +kernel
theorem dL_law_580 : decode cL_law 580 = .ok (.invokevirtual 69, 3) := by decide +kernel
theorem dL_law_583 : decode cL_law 583 = .ok (.aload_n 2, 1) := by decide +kernel
theorem dL_law_584 : decode cL_law 584 = .ok (.aload_n 0, 1) := by decide +kernel
theorem dL_law_585 : decode cL_law 585 = .ok (.iload 4, 2) := by decide +kernel
theorem dL_law_587 : decode cL_law 587 = .ok (.iconst 1, 1) := by decide +kernel
theorem dL_law_588 : decode cL_law 588 = .ok (.iadd, 1) := by decide +kernel
theorem dL_law_589 : decode cL_law 589 = .ok (.iaload, 1) := by decide +kernel
theorem dL_law_590 : decode cL_law 590 = .ok (.aload_n 0, 1) := by decide +kernel
theorem dL_law_591 : decode cL_law 591 = .ok (.iload 4, 2) := by decide +kernel
theorem dL_law_593 : decode cL_law 593 = .ok (.iconst 2, 1) := by decide +kernel
theorem dL_law_594 : decode cL_law 594 = .ok (.iadd, 1) := by decide +kernel
theorem dL_law_595 : decode cL_law 595 = .ok (.iaload, 1) := by decide +kernel
theorem dL_law_596 : decode cL_law 596 = .ok (.ifCond .eq 7, 3) := by decide +kernel
theorem dL_law_599 : decode cL_law 599 = .ok (.iconst 1, 1) := by decide +kernel
theorem dL_law_600 : decode cL_law 600 = .ok (.goto 4, 3) := by decide +kernel
theorem dL_law_603 : decode cL_law 603 = .ok (.iconst 0, 1) := by decide +kernel
theorem dL_law_604 : decode cL_law 604 = .ok (.invokevirtual 72, 3) := by decide +kernel
theorem dL_law_607 : decode cL_law 607 = .ok (.if_icmp .eq 757, 3) := by decide +kernel
theorem dL_law_610 : decode cL_law 610 = .ok (.iconst 0, 1) := by decide +kernel
theorem dL_law_611 : decode cL_law 611 = .ok (.ireturn, 1) := by decide +kernel
theorem dL_law_612 : decode cL_law 612 = .ok (.aload_n 1, 1) := by decide +kernel
theorem dL_law_613 : decode cL_law 613 = .ok (.aload_n 0, 1) := by decide +kernel
theorem dL_law_614 : decode cL_law 614 = .ok (.iload 4, 2) := by decide +kernel
theorem dL_law_616 : decode cL_law 616 = .ok (.iconst 1, 1) := by decide +kernel
theorem dL_law_617 : decode cL_law 617 = .ok (.iadd, 1) := by decide +kernel
theorem dL_law_618 : decode cL_law 618 = .ok (.iaload, 1) := by decide +kernel
theorem dL_law_619 : decode cL_law 619 = .ok (.aload_n 0, 1) := by decide +kernel
theorem dL_law_620 : decode cL_law 620 = .ok (.iload 4, 2) := by decide +kernel
theorem dL_law_622 : decode cL_law 622 = .ok (.iconst 2, 1) := by decide +kernel
theorem dL_law_623 : decode cL_law 623 = .ok (.iadd, 1) := by decide +kernel
theorem dL_law_624 : decode cL_law 624 = .ok (.iaload, 1) := by decide +kernel
theorem dL_law_625 : decode cL_law 625 = .ok (.aload_n 0, 1) := by decide +kernel
theorem dL_law_626 : decode cL_law 626 = .ok (.iload 4, 2) := by decide +kernel
theorem dL_law_628 : decode cL_law 628 = .ok (.iconst 3, 1) := by decide +kernel
theorem dL_law_629 : decode cL_law 629 = .ok (.iadd, 1) := by decide +kernel
theorem dL_law_630 : decode cL_law 630 = .ok (.iaload, 1) := by decide +kernel
theorem dL_law_631 : decode cL_law 631 = .ok (.aload_n 0, 1) := by decide +kernel
theorem dL_law_632 : decode cL_law 632 = .ok (.iload 4, 2) := by decide +kernel
theorem dL_law_634 : decode cL_law 634 = .ok (.iconst 4, 1) := by decide +kernel
theorem dL_law_635 : decode cL_law 635 = .ok (.iadd, 1) := by decide +kernel
theorem dL_law_636 : decode cL_law 636 = .ok (.iaload, 1) := by decide +kernel
theorem dL_law_637 : decode cL_law 637 = .ok (.invokevirtual 73, 3) := by decide +kernel
theorem dL_law_640 : decode cL_law 640 = .ok (.aload_n 2, 1) := by decide +kernel
theorem dL_law_641 : decode cL_law 641 = .ok (.aload_n 0, 1) := by decide +kernel
theorem dL_law_642 : decode cL_law 642 = .ok (.iload 4, 2) := by decide +kernel
theorem dL_law_644 : decode cL_law 644 = .ok (.iconst 1, 1) := by decide +kernel
theorem dL_law_645 : decode cL_law 645 = .ok (.iadd, 1) := by decide +kernel
theorem dL_law_646 : decode cL_law 646 = .ok (.iaload, 1) := by decide +kernel
theorem dL_law_647 : decode cL_law 647 = .ok (.aload_n 0, 1) := by decide +kernel
theorem dL_law_648 : decode cL_law 648 = .ok (.iload 4, 2) := by decide +kernel
theorem dL_law_650 : decode cL_law 650 = .ok (.iconst 2, 1) := by decide +kernel
theorem dL_law_651 : decode cL_law 651 = .ok (.iadd, 1) := by decide +kernel
theorem dL_law_652 : decode cL_law 652 = .ok (.iaload, 1) := by decide +kernel
theorem dL_law_653 : decode cL_law 653 = .ok (.aload_n 0, 1) := by decide +kernel
theorem dL_law_654 : decode cL_law 654 = .ok (.iload 4, 2) := by decide +kernel
theorem dL_law_656 : decode cL_law 656 = .ok (.iconst 3, 1) := by decide +kernel
theorem dL_law_657 : decode cL_law 657 = .ok (.iadd, 1) := by decide +kernel
theorem dL_law_658 : decode cL_law 658 = .ok (.iaload, 1) := by decide +kernel
theorem dL_law_659 : decode cL_law 659 = .ok (.aload_n 0, 1) := by decide +kernel
theorem dL_law_660 : decode cL_law 660 = .ok (.iload 4, 2) := by decide +kernel
theorem dL_law_662 : decode cL_law 662 = .ok (.iconst 4, 1) := by decide +kernel
theorem dL_law_663 : decode cL_law 663 = .ok (.iadd, 1) := by decide +kernel
theorem dL_law_664 : decode cL_law 664 = .ok (.iaload, 1) := by decide +kernel
theorem dL_law_665 : decode cL_law 665 = .ok (.invokevirtual 77, 3) := by decide +kernel
theorem dL_law_668 : decode cL_law 668 = .ok (.if_icmp .eq 696, 3) := by decide +kernel
theorem dL_law_671 : decode cL_law 671 = .ok (.iconst 0, 1) := by decide +kernel
theorem dL_law_672 : decode cL_law 672 = .ok (.ireturn, 1) := by decide +kernel
theorem dL_law_673 : decode cL_law 673 = .ok (.aload_n 1, 1) := by decide +kernel
theorem dL_law_674 : decode cL_law 674 = .ok (.aload_n 0, 1) := by decide +kernel
theorem dL_law_675 : decode cL_law 675 = .ok (.iload 4, 2) := by decide +kernel
theorem dL_law_677 : decode cL_law 677 = .ok (.iconst 1, 1) := by decide +kernel
theorem dL_law_678 : decode cL_law 678 = .ok (.iadd, 1) := by decide +kernel
theorem dL_law_679 : decode cL_law 679 = .ok (.iaload, 1) := by decide +kernel
theorem dL_law_680 : decode cL_law 680 = .ok (.aload_n 0, 1) := by decide +kernel
theorem dL_law_681 : decode cL_law 681 = .ok (.iload 4, 2) := by decide +kernel
theorem dL_law_683 : decode cL_law 683 = .ok (.iconst 2, 1) := by decide +kernel
theorem dL_law_684 : decode cL_law 684 = .ok (.iadd, 1) := by decide +kernel
theorem dL_law_685 : decode cL_law 685 = .ok (.iaload, 1) := by decide +kernel
theorem dL_law_686 : decode cL_law 686 = .ok (.aload_n 0, 1) := by decide +kernel
theorem dL_law_687 : decode cL_law 687 = .ok (.iload 4, 2) := by decide +kernel
theorem dL_law_689 : decode cL_law 689 = .ok (.iconst 3, 1) := by decide +kernel
theorem dL_law_690 : decode cL_law 690 = .ok (.iadd, 1) := by decide +kernel
theorem dL_law_691 : decode cL_law 691 = .ok (.iaload, 1) := by decide +kernel
theorem dL_law_692 : decode cL_law 692 = .ok (.invokevirtual 78, 3) := by decide +kernel
theorem dL_law_695 : decode cL_law 695 = .ok (.aload_n 2, 1) := by decide +kernel
theorem dL_law_696 : decode cL_law 696 = .ok (.aload_n 0, 1) := by decide +kernel
theorem dL_law_697 : decode cL_law 697 = .ok (.iload 4, 2) := by decide +kernel
theorem dL_law_699 : decode cL_law 699 = .ok (.iconst 1, 1) := by decide +kernel
theorem dL_law_700 : decode cL_law 700 = .ok (.iadd, 1) := by decide +kernel
theorem dL_law_701 : decode cL_law 701 = .ok (.iaload, 1) := by decide +kernel
theorem dL_law_702 : decode cL_law 702 = .ok (.aload_n 0, 1) := by decide +kernel
theorem dL_law_703 : decode cL_law 703 = .ok (.iload 4, 2) := by decide +kernel
theorem dL_law_705 : decode cL_law 705 = .ok (.iconst 2, 1) := by decide +kernel
theorem dL_law_706 : decode cL_law 706 = .ok (.iadd, 1) := by decide +kernel
theorem dL_law_707 : decode cL_law 707 = .ok (.iaload, 1) := by decide +kernel
theorem dL_law_708 : decode cL_law 708 = .ok (.aload_n 0, 1) := by decide +kernel
theorem dL_law_709 : decode cL_law 709 = .ok (.iload 4, 2) := by decide +kernel
theorem dL_law_711 : decode cL_law 711 = .ok (.iconst 3, 1) := by decide +kernel
theorem dL_law_712 : decode cL_law 712 = .ok (.iadd, 1) := by decide +kernel
theorem dL_law_713 : decode cL_law 713 = .ok (.iaload, 1) := by decide +kernel
theorem dL_law_714 : decode cL_law 714 = .ok (.invokevirtual 81, 3) := by decide +kernel
theorem dL_law_717 : decode cL_law 717 = .ok (.if_icmp .eq 647, 3) := by decide +kernel
theorem dL_law_720 : decode cL_law 720 = .ok (.iconst 0, 1) := by decide +kernel
theorem dL_law_721 : decode cL_law 721 = .ok (.ireturn, 1) := by decide +kernel
theorem dL_law_722 : decode cL_law 722 = .ok (.aload_n 1, 1) := by decide +kernel
theorem dL_law_723 : decode cL_law 723 = .ok (.aload_n 0, 1) := by decide +kernel
theorem dL_law_724 : decode cL_law 724 = .ok (.iload 4, 2) := by decide +kernel
theorem dL_law_726 : decode cL_law 726 = .ok (.iconst 1, 1) := by decide +kernel
theorem dL_law_727 : decode cL_law 727 = .ok (.iadd, 1) := by decide +kernel
theorem dL_law_728 : decode cL_law 728 = .ok (.iaload, 1) := by decide +kernel
theorem dL_law_729 : decode cL_law 729 = .ok (.aload_n 0, 1) := by decide +kernel
theorem dL_law_730 : decode cL_law 730 = .ok (.iload 4, 2) := by decide +kernel
theorem dL_law_732 : decode cL_law 732 = .ok (.iconst 2, 1) := by decide +kernel
theorem dL_law_733 : decode cL_law 733 = .ok (.iadd, 1) := by decide +kernel
theorem dL_law_734 : decode cL_law 734 = .ok (.iaload, 1) := by decide +kernel
theorem dL_law_735 : decode cL_law 735 = .ok (.invokevirtual 82, 3) := by decide +kernel
theorem dL_law_738 : decode cL_law 738 = .ok (.aload_n 2, 1) := by decide +kernel
theorem dL_law_739 : decode cL_law 739 = .ok (.aload_n 0, 1) := by decide +kernel
theorem dL_law_740 : decode cL_law 740 = .ok (.iload 4, 2) := by decide +kernel
theorem dL_law_742 : decode cL_law 742 = .ok (.iconst 1, 1) := by decide +kernel
theorem dL_law_743 : decode cL_law 743 = .ok (.iadd, 1) := by decide +kernel
theorem dL_law_744 : decode cL_law 744 = .ok (.iaload, 1) := by decide +kernel
theorem dL_law_745 : decode cL_law 745 = .ok (.aload_n 0, 1) := by decide +kernel
theorem dL_law_746 : decode cL_law 746 = .ok (.iload 4, 2) := by decide +kernel
theorem dL_law_748 : decode cL_law 748 = .ok (.iconst 2, 1) := by decide +kernel
theorem dL_law_749 : decode cL_law 749 = .ok (.iadd, 1) := by decide +kernel
theorem dL_law_750 : decode cL_law 750 = .ok (.iaload, 1) := by decide +kernel
theorem dL_law_751 : decode cL_law 751 = .ok (.invokevirtual 85, 3) := by decide +kernel
theorem dL_law_754 : decode cL_law 754 = .ok (.if_icmp .eq 610, 3) := by decide +kernel
theorem dL_law_757 : decode cL_law 757 = .ok (.iconst 0, 1) := by decide +kernel
theorem dL_law_758 : decode cL_law 758 = .ok (.ireturn, 1) := by decide +kernel
theorem dL_law_759 : decode cL_law 759 = .ok (.aload_n 1, 1) := by decide +kernel
theorem dL_law_760 : decode cL_law 760 = .ok (.aload_n 0, 1) := by decide +kernel
theorem dL_law_761 : decode cL_law 761 = .ok (.iload 4, 2) := by decide +kernel
theorem dL_law_763 : decode cL_law 763 = .ok (.iconst 1, 1) := by decide +kernel
theorem dL_law_764 : decode cL_law 764 = .ok (.iadd, 1) := by decide +kernel
theorem dL_law_765 : decode cL_law 765 = .ok (.iaload, 1) := by decide +kernel
theorem dL_law_766 : decode cL_law 766 = .ok (.aload_n 0, 1) := by decide +kernel
theorem dL_law_767 : decode cL_law 767 = .ok (.iload 4, 2) := by decide +kernel
theorem dL_law_769 : decode cL_law 769 = .ok (.iconst 2, 1) := by decide +kernel
theorem dL_law_770 : decode cL_law 770 = .ok (.iadd, 1) := by decide +kernel
theorem dL_law_771 : decode cL_law 771 = .ok (.iaload, 1) := by decide +kernel
theorem dL_law_772 : decode cL_law 772 = .ok (.invokevirtual 86, 3) := by decide +kernel
theorem dL_law_775 : decode cL_law 775 = .ok (.aload_n 2, 1) := by decide +kernel
theorem dL_law_776 : decode cL_law 776 = .ok (.aload_n 0, 1) := by decide +kernel
theorem dL_law_777 : decode cL_law 777 = .ok (.iload 4, 2) := by decide +kernel
theorem dL_law_779 : decode cL_law 779 = .ok (.iconst 1, 1) := by decide +kernel
theorem dL_law_780 : decode cL_law 780 = .ok (.iadd, 1) := by decide +kernel
theorem dL_law_781 : decode cL_law 781 = .ok (.iaload, 1) := by decide +kernel
theorem dL_law_782 : decode cL_law 782 = .ok (.aload_n 0, 1) := by decide +kernel
theorem dL_law_783 : decode cL_law 783 = .ok (.iload 4, 2) := by decide +kernel
theorem dL_law_785 : decode cL_law 785 = .ok (.iconst 2, 1) := by decide +kernel
theorem dL_law_786 : decode cL_law 786 = .ok (.iadd, 1) := by decide +kernel
theorem dL_law_787 : decode cL_law 787 = .ok (.iaload, 1) := by decide +kernel
theorem dL_law_788 : decode cL_law 788 = .ok (.invokevirtual 89, 3) := by decide +kernel
theorem dL_law_791 : decode cL_law 791 = .ok (.if_icmp .eq 573, 3) := by decide +kernel
theorem dL_law_794 : decode cL_law 794 = .ok (.iconst 0, 1) := by decide +kernel
theorem dL_law_795 : decode cL_law 795 = .ok (.ireturn, 1) := by decide +kernel
theorem dL_law_796 : decode cL_law 796 = .ok (.aload_n 1, 1) := by decide +kernel
theorem dL_law_797 : decode cL_law 797 = .ok (.aload_n 0, 1) := by decide +kernel
theorem dL_law_798 : decode cL_law 798 = .ok (.iload 4, 2) := by decide +kernel
theorem dL_law_800 : decode cL_law 800 = .ok (.iconst 1, 1) := by decide +kernel
theorem dL_law_801 : decode cL_law 801 = .ok (.iadd, 1) := by decide +kernel
theorem dL_law_802 : decode cL_law 802 = .ok (.iaload, 1) := by decide +kernel
theorem dL_law_803 : decode cL_law 803 = .ok (.aload_n 0, 1) := by decide +kernel
theorem dL_law_804 : decode cL_law 804 = .ok (.iload 4, 2) := by decide +kernel
theorem dL_law_806 : decode cL_law 806 = .ok (.iconst 2, 1) := by decide +kernel
theorem dL_law_807 : decode cL_law 807 = .ok (.iadd, 1) := by decide +kernel
theorem dL_law_808 : decode cL_law 808 = .ok (.iaload, 1) := by decide +kernel
theorem dL_law_809 : decode cL_law 809 = .ok (.invokevirtual 90, 3) := by decide +kernel
theorem dL_law_812 : decode cL_law 812 = .ok (.aload_n 2, 1) := by decide +kernel
theorem dL_law_813 : decode cL_law 813 = .ok (.aload_n 0, 1) := by decide +kernel
theorem dL_law_814 : decode cL_law 814 = .ok (.iload 4, 2) := by decide +kernel
theorem dL_law_816 : decode cL_law 816 = .ok (.iconst 1, 1) := by decide +kernel
theorem dL_law_817 : decode cL_law 817 = .ok (.iadd, 1) := by decide +kernel
theorem dL_law_818 : decode cL_law 818 = .ok (.iaload, 1) := by decide +kernel
theorem dL_law_819 : decode cL_law 819 = .ok (.aload_n 0, 1) := by decide +kernel
theorem dL_law_820 : decode cL_law 820 = .ok (.iload 4, 2) := by decide +kernel
theorem dL_law_822 : decode cL_law 822 = .ok (.iconst 2, 1) := by decide +kernel
theorem dL_law_823 : decode cL_law 823 = .ok (.iadd, 1) := by decide +kernel
theorem dL_law_824 : decode cL_law 824 = .ok (.iaload, 1) := by decide +kernel
theorem dL_law_825 : decode cL_law 825 = .ok (.invokevirtual 93, 3) := by decide +kernel
theorem dL_law_828 : decode cL_law 828 = .ok (.if_icmp .eq 536, 3) := by decide +kernel
theorem dL_law_831 : decode cL_law 831 = .ok (.iconst 0, 1) := by decide +kernel
theorem dL_law_832 : decode cL_law 832 = .ok (.ireturn, 1) := by decide +kernel
theorem dL_law_833 : decode cL_law 833 = .ok (.aload_n 1, 1) := by decide +kernel
theorem dL_law_834 : decode cL_law 834 = .ok (.aload_n 0, 1) := by decide +kernel
theorem dL_law_835 : decode cL_law 835 = .ok (.iload 4, 2) := by decide +kernel
theorem dL_law_837 : decode cL_law 837 = .ok (.iconst 1, 1) := by decide +kernel
theorem dL_law_838 : decode cL_law 838 = .ok (.iadd, 1) := by decide +kernel
theorem dL_law_839 : decode cL_law 839 = .ok (.iaload, 1) := by decide +kernel
theorem dL_law_840 : decode cL_law 840 = .ok (.aload_n 0, 1) := by decide +kernel
theorem dL_law_841 : decode cL_law 841 = .ok (.iload 4, 2) := by decide +kernel
theorem dL_law_843 : decode cL_law 843 = .ok (.iconst 2, 1) := by decide +kernel
theorem dL_law_844 : decode cL_law 844 = .ok (.iadd, 1) := by decide +kernel
theorem dL_law_845 : decode cL_law 845 = .ok (.iaload, 1) := by decide +kernel
theorem dL_law_846 : decode cL_law 846 = .ok (.invokevirtual 94, 3) := by decide +kernel
theorem dL_law_849 : decode cL_law 849 = .ok (.aload_n 2, 1) := by decide +kernel
theorem dL_law_850 : decode cL_law 850 = .ok (.aload_n 0, 1) := by decide +kernel
theorem dL_law_851 : decode cL_law 851 = .ok (.iload 4, 2) := by decide +kernel
theorem dL_law_853 : decode cL_law 853 = .ok (.iconst 1, 1) := by decide +kernel
theorem dL_law_854 : decode cL_law 854 = .ok (.iadd, 1) := by decide +kernel
theorem dL_law_855 : decode cL_law 855 = .ok (.iaload, 1) := by decide +kernel
theorem dL_law_856 : decode cL_law 856 = .ok (.aload_n 0, 1) := by decide +kernel
theorem dL_law_857 : decode cL_law 857 = .ok (.iload 4, 2) := by decide +kernel
theorem dL_law_859 : decode cL_law 859 = .ok (.iconst 2, 1) := by decide +kernel
theorem dL_law_860 : decode cL_law 860 = .ok (.iadd, 1) := by decide +kernel
theorem dL_law_861 : decode cL_law 861 = .ok (.iaload, 1) := by decide +kernel
theorem dL_law_862 : decode cL_law 862 = .ok (.invokevirtual 97, 3) := by decide +kernel
theorem dL_law_865 : decode cL_law 865 = .ok (.if_icmp .eq 499, 3) := by decide +kernel
theorem dL_law_868 : decode cL_law 868 = .ok (.iconst 0, 1) := by decide +kernel
theorem dL_law_869 : decode cL_law 869 = .ok (.ireturn, 1) := by decide +kernel
theorem dL_law_870 : decode cL_law 870 = .ok (.aload_n 1, 1) := by decide +kernel
theorem dL_law_871 : decode cL_law 871 = .ok (.aload_n 0, 1) := by decide +kernel
theorem dL_law_872 : decode cL_law 872 = .ok (.iload 4, 2) := by decide +kernel
theorem dL_law_874 : decode cL_law 874 = .ok (.iconst 1, 1) := by decide +kernel
theorem dL_law_875 : decode cL_law 875 = .ok (.iadd, 1) := by decide +kernel
theorem dL_law_876 : decode cL_law 876 = .ok (.iaload, 1) := by decide +kernel
theorem dL_law_877 : decode cL_law 877 = .ok (.aload_n 0, 1) := by decide +kernel
theorem dL_law_878 : decode cL_law 878 = .ok (.iload 4, 2) := by decide +kernel
theorem dL_law_880 : decode cL_law 880 = .ok (.iconst 2, 1) := by decide +kernel
theorem dL_law_881 : decode cL_law 881 = .ok (.iadd, 1) := by decide +kernel
theorem dL_law_882 : decode cL_law 882 = .ok (.iaload, 1) := by decide +kernel
theorem dL_law_883 : decode cL_law 883 = .ok (.invokevirtual 98, 3) := by decide +kernel
theorem dL_law_886 : decode cL_law 886 = .ok (.aload_n 2, 1) := by decide +kernel
theorem dL_law_887 : decode cL_law 887 = .ok (.aload_n 0, 1) := by decide +kernel
theorem dL_law_888 : decode cL_law 888 = .ok (.iload 4, 2) := by decide +kernel
theorem dL_law_890 : decode cL_law 890 = .ok (.iconst 1, 1) := by decide +kernel
theorem dL_law_891 : decode cL_law 891 = .ok (.iadd, 1) := by decide +kernel
theorem dL_law_892 : decode cL_law 892 = .ok (.iaload, 1) := by decide +kernel
