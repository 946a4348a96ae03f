theorem dX4_turnTwo_0 : decode cX4_turnTwo 0 = .ok (.aload_n 0, 1) := by decide +kernel
theorem dX4_turnTwo_1 : decode cX4_turnTwo 1 = .ok (.iload_n 1, 1) := by decide +kernel
theorem dX4_turnTwo_2 : decode cX4_turnTwo 2 = .ok (.iaload, 1) := by decide +kernel
theorem dX4_turnTwo_3 : decode cX4_turnTwo 3 = .ok (.i2l, 1) := by decide +kernel
theorem dX4_turnTwo_4 : decode cX4_turnTwo 4 = .ok (.lstore 5, 2) := by decide +kernel
theorem dX4_turnTwo_6 : decode cX4_turnTwo 6 = .ok (.aload_n 0, 1) := by decide +kernel
theorem dX4_turnTwo_7 : decode cX4_turnTwo 7 = .ok (.iload_n 2, 1) := by decide +kernel
theorem dX4_turnTwo_8 : decode cX4_turnTwo 8 = .ok (.iaload, 1) := by decide +kernel
theorem dX4_turnTwo_9 : decode cX4_turnTwo 9 = .ok (.i2l, 1) := by decide +kernel
theorem dX4_turnTwo_10 : decode cX4_turnTwo 10 = .ok (.lstore 7, 2) := by decide +kernel
theorem dX4_turnTwo_12 : decode cX4_turnTwo 12 = .ok (.iload_n 3, 1) := by decide +kernel
theorem dX4_turnTwo_13 : decode cX4_turnTwo 13 = .ok (.iconst 1, 1) := by decide +kernel
theorem dX4_turnTwo_14 : decode cX4_turnTwo 14 = .ok (.if_icmp .ne 30, 3) := by decide +kernel
theorem dX4_turnTwo_17 : decode cX4_turnTwo 17 = .ok (.aload_n 0, 1) := by decide +kernel
theorem dX4_turnTwo_18 : decode cX4_turnTwo 18 = .ok (.iload_n 2, 1) := by decide +kernel
theorem dX4_turnTwo_19 : decode cX4_turnTwo 19 = .ok (.iload 4, 2) := by decide +kernel
theorem dX4_turnTwo_21 : decode cX4_turnTwo 21 = .ok (.ifCond .eq 11, 3) := by decide +kernel
theorem dX4_turnTwo_24 : decode cX4_turnTwo 24 = .ok (.lload 7, 2) := by decide +kernel
theorem dX4_turnTwo_26 : decode cX4_turnTwo 26 = .ok (.lload 5, 2) := by decide +kernel
theorem dX4_turnTwo_28 : decode cX4_turnTwo 28 = .ok (.lsub, 1) := by decide +kernel
theorem dX4_turnTwo_29 : decode cX4_turnTwo 29 = .ok (.goto 8, 3) := by decide +kernel
theorem dX4_turnTwo_32 : decode cX4_turnTwo 32 = .ok (.lload 7, 2) := by decide +kernel
theorem dX4_turnTwo_34 : decode cX4_turnTwo 34 = .ok (.lload 5, 2) := by decide +kernel
theorem dX4_turnTwo_36 : decode cX4_turnTwo 36 = .ok (.ladd, 1) := by decide +kernel
theorem dX4_turnTwo_37 : decode cX4_turnTwo 37 = .ok (.invokestatic 124, 3) := by decide +kernel
theorem dX4_turnTwo_40 : decode cX4_turnTwo 40 = .ok (.iastore, 1) := by decide +kernel
theorem dX4_turnTwo_41 : decode cX4_turnTwo 41 = .ok (.goto 77, 3) := by decide +kernel
theorem dX4_turnTwo_44 : decode cX4_turnTwo 44 = .ok (.iload_n 3, 1) := by decide +kernel
theorem dX4_turnTwo_45 : decode cX4_turnTwo 45 = .ok (.iconst 2, 1) := by decide +kernel
theorem dX4_turnTwo_46 : decode cX4_turnTwo 46 = .ok (.if_icmp .ne 30, 3) := by decide +kernel
theorem dX4_turnTwo_49 : decode cX4_turnTwo 49 = .ok (.aload_n 0, 1) := by decide +kernel
theorem dX4_turnTwo_50 : decode cX4_turnTwo 50 = .ok (.iload_n 1, 1) := by decide +kernel
theorem dX4_turnTwo_51 : decode cX4_turnTwo 51 = .ok (.iload 4, 2) := by decide +kernel
theorem dX4_turnTwo_53 : decode cX4_turnTwo 53 = .ok (.ifCond .eq 11, 3) := by decide +kernel
theorem dX4_turnTwo_56 : decode cX4_turnTwo 56 = .ok (.lload 5, 2) := by decide +kernel
theorem dX4_turnTwo_58 : decode cX4_turnTwo 58 = .ok (.lload 7, 2) := by decide +kernel
theorem dX4_turnTwo_60 : decode cX4_turnTwo 60 = .ok (.lsub, 1) := by decide +kernel
theorem dX4_turnTwo_61 : decode cX4_turnTwo 61 = .ok (.goto 8, 3) := by decide +kernel
theorem dX4_turnTwo_64 : decode cX4_turnTwo 64 = .ok (.lload 5, 2) := by decide +kernel
theorem dX4_turnTwo_66 : decode cX4_turnTwo 66 = .ok (.lload 7, 2) := by decide +kernel
theorem dX4_turnTwo_68 : decode cX4_turnTwo 68 = .ok (.ladd, 1) := by decide +kernel
theorem dX4_turnTwo_69 : decode cX4_turnTwo 69 = .ok (.invokestatic 124, 3) := by decide +kernel
theorem dX4_turnTwo_72 : decode cX4_turnTwo 72 = .ok (.iastore, 1) := by decide +kernel
theorem dX4_turnTwo_73 : decode cX4_turnTwo 73 = .ok (.goto 45, 3) := by decide +kernel
theorem dX4_turnTwo_76 : decode cX4_turnTwo 76 = .ok (.iload 4, 2) := by decide +kernel
theorem dX4_turnTwo_78 : decode cX4_turnTwo 78 = .ok (.ifCond .eq 9, 3) := by decide +kernel
theorem dX4_turnTwo_81 : decode cX4_turnTwo 81 = .ok (.ldc2_w 255, 3) := by decide +kernel
theorem dX4_turnTwo_84 : decode cX4_turnTwo 84 = .ok (.goto 4, 3) := by decide +kernel
theorem dX4_turnTwo_87 : decode cX4_turnTwo 87 = .ok (.lconst 1, 1) := by decide +kernel
theorem dX4_turnTwo_88 : decode cX4_turnTwo 88 = .ok (.lstore 9, 2) := by decide +kernel
theorem dX4_turnTwo_90 : decode cX4_turnTwo 90 = .ok (.aload_n 0, 1) := by decide +kernel
theorem dX4_turnTwo_91 : decode cX4_turnTwo 91 = .ok (.iload_n 1, 1) := by decide +kernel
theorem dX4_turnTwo_92 : decode cX4_turnTwo 92 = .ok (.lload 5, 2) := by decide +kernel
theorem dX4_turnTwo_94 : decode cX4_turnTwo 94 = .ok (.lload 7, 2) := by decide +kernel
theorem dX4_turnTwo_96 : decode cX4_turnTwo 96 = .ok (.ladd, 1) := by decide +kernel
theorem dX4_turnTwo_97 : decode cX4_turnTwo 97 = .ok (.lload 9, 2) := by decide +kernel
theorem dX4_turnTwo_99 : decode cX4_turnTwo 99 = .ok (.lmul, 1) := by decide +kernel
theorem dX4_turnTwo_100 : decode cX4_turnTwo 100 = .ok (.invokestatic 124, 3) := by decide +kernel
theorem dX4_turnTwo_103 : decode cX4_turnTwo 103 = .ok (.iastore, 1) := by decide +kernel
theorem dX4_turnTwo_104 : decode cX4_turnTwo 104 = .ok (.aload_n 0, 1) := by decide +kernel
theorem dX4_turnTwo_105 : decode cX4_turnTwo 105 = .ok (.iload_n 2, 1) := by decide +kernel
theorem dX4_turnTwo_106 : decode cX4_turnTwo 106 = .ok (.lload 5, 2) := by decide +kernel
theorem dX4_turnTwo_108 : decode cX4_turnTwo 108 = .ok (.lload 7, 2) := by decide +kernel
theorem dX4_turnTwo_110 : decode cX4_turnTwo 110 = .ok (.lsub, 1) := by decide +kernel
theorem dX4_turnTwo_111 : decode cX4_turnTwo 111 = .ok (.lload 9, 2) := by decide +kernel
theorem dX4_turnTwo_113 : decode cX4_turnTwo 113 = .ok (.lmul, 1) := by decide +kernel
theorem dX4_turnTwo_114 : decode cX4_turnTwo 114 = .ok (.invokestatic 124, 3) := by decide +kernel
theorem dX4_turnTwo_117 : decode cX4_turnTwo 117 = .ok (.iastore, 1) := by decide +kernel
theorem dX4_turnTwo_118 : decode cX4_turnTwo 118 = .ok (.return_, 1) := by decide +kernel
theorem dX4_reduce_0 : decode cX4_reduce 0 = .ok (.lload_n 0, 1) := by decide +kernel
theorem dX4_reduce_1 : decode cX4_reduce 1 = .ok (.ldc2_w 257, 3) := by decide +kernel
theorem dX4_reduce_4 : decode cX4_reduce 4 = .ok (.lrem, 1) := by decide +kernel
theorem dX4_reduce_5 : decode cX4_reduce 5 = .ok (.lstore_n 2, 1) := by decide +kernel
theorem dX4_reduce_6 : decode cX4_reduce 6 = .ok (.lload_n 2, 1) := by decide +kernel
theorem dX4_reduce_7 : decode cX4_reduce 7 = .ok (.lconst 0, 1) := by decide +kernel
theorem dX4_reduce_8 : decode cX4_reduce 8 = .ok (.lcmp, 1) := by decide +kernel
theorem dX4_reduce_9 : decode cX4_reduce 9 = .ok (.ifCond .ge 11, 3) := by decide +kernel
theorem dX4_reduce_12 : decode cX4_reduce 12 = .ok (.lload_n 2, 1) := by decide +kernel
theorem dX4_reduce_13 : decode cX4_reduce 13 = .ok (.ldc2_w 257, 3) := by decide +kernel
theorem dX4_reduce_16 : decode cX4_reduce 16 = .ok (.ladd, 1) := by decide +kernel
theorem dX4_reduce_17 : decode cX4_reduce 17 = .ok (.goto 4, 3) := by decide +kernel
theorem dX4_reduce_20 : decode cX4_reduce 20 = .ok (.lload_n 2, 1) := by decide +kernel
theorem dX4_reduce_21 : decode cX4_reduce 21 = .ok (.l2i, 1) := by decide +kernel
theorem dX4_reduce_22 : decode cX4_reduce 22 = .ok (.ireturn, 1) := by decide +kernel
theorem dX4_raise_0 : decode cX4_raise 0 = .ok (.lconst 1, 1) := by decide +kernel
theorem dX4_raise_1 : decode cX4_raise 1 = .ok (.lstore_n 2, 1) := by decide +kernel
theorem dX4_raise_2 : decode cX4_raise 2 = .ok (.iload_n 0, 1) := by decide +kernel
theorem dX4_raise_3 : decode cX4_raise 3 = .ok (.i2l, 1) := by decide +kernel
theorem dX4_raise_4 : decode cX4_raise 4 = .ok (.lstore 4, 2) := by decide +kernel
theorem dX4_raise_6 : decode cX4_raise 6 = .ok (.iload_n 1, 1) := by decide +kernel
theorem dX4_raise_7 : decode cX4_raise 7 = .ok (.istore 6, 2) := by decide +kernel
theorem dX4_raise_9 : decode cX4_raise 9 = .ok (.iload 6, 2) := by decide +kernel
theorem dX4_raise_11 : decode cX4_raise 11 = .ok (.ifCond .le 40, 3) := by decide +kernel
theorem dX4_raise_14 : decode cX4_raise 14 = .ok (.iload 6, 2) := by decide +kernel
theorem dX4_raise_16 : decode cX4_raise 16 = .ok (.iconst 1, 1) := by decide +kernel
theorem dX4_raise_17 : decode cX4_raise 17 = .ok (.iand, 1) := by decide +kernel
theorem dX4_raise_18 : decode cX4_raise 18 = .ok (.iconst 1, 1) := by decide +kernel
theorem dX4_raise_19 : decode cX4_raise 19 = .ok (.if_icmp .ne 12, 3) := by decide +kernel
theorem dX4_raise_22 : decode cX4_raise 22 = .ok (.lload_n 2, 1) := by decide +kernel
theorem dX4_raise_23 : decode cX4_raise 23 = .ok (.lload 4, 2) := by decide +kernel
theorem dX4_raise_25 : decode cX4_raise 25 = .ok (.lmul, 1) := by decide +kernel
theorem dX4_raise_26 : decode cX4_raise 26 = .ok (.ldc2_w 257, 3) := by decide +kernel
theorem dX4_raise_29 : decode cX4_raise 29 = .ok (.lrem, 1) := by decide +kernel
theorem dX4_raise_30 : decode cX4_raise 30 = .ok (.lstore_n 2, 1) := by decide +kernel
theorem dX4_raise_31 : decode cX4_raise 31 = .ok (.lload 4, 2) := by decide +kernel
theorem dX4_raise_33 : decode cX4_raise 33 = .ok (.lload 4, 2) := by decide +kernel
theorem dX4_raise_35 : decode cX4_raise 35 = .ok (.lmul, 1) := by decide +kernel
theorem dX4_raise_36 : decode cX4_raise 36 = .ok (.ldc2_w 257, 3) := by decide +kernel
theorem dX4_raise_39 : decode cX4_raise 39 = .ok (.lrem, 1) := by decide +kernel
theorem dX4_raise_40 : decode cX4_raise 40 = .ok (.lstore 4, 2) := by decide +kernel
theorem dX4_raise_42 : decode cX4_raise 42 = .ok (.iload 6, 2) := by decide +kernel
theorem dX4_raise_44 : decode cX4_raise 44 = .ok (.iconst 1, 1) := by decide +kernel
theorem dX4_raise_45 : decode cX4_raise 45 = .ok (.ishr, 1) := by decide +kernel
theorem dX4_raise_46 : decode cX4_raise 46 = .ok (.istore 6, 2) := by decide +kernel
theorem dX4_raise_48 : decode cX4_raise 48 = .ok (.goto (-39), 3) := by decide +kernel
theorem dX4_raise_51 : decode cX4_raise 51 = .ok (.lload_n 2, 1) := by decide +kernel
theorem dX4_raise_52 : decode cX4_raise 52 = .ok (.l2i, 1) := by decide +kernel
theorem dX4_raise_53 : decode cX4_raise 53 = .ok (.ireturn, 1) := by decide +kernel
theorem dX4_leastThing_0 : decode cX4_leastThing 0 = .ok (.iconst 0, 1) := by decide +kernel
theorem dX4_leastThing_1 : decode cX4_leastThing 1 = .ok (.istore_n 1, 1) := by decide +kernel
theorem dX4_leastThing_2 : decode cX4_leastThing 2 = .ok (.iload_n 1, 1) := by decide +kernel
theorem dX4_leastThing_3 : decode cX4_leastThing 3 = .ok (.bipush 8, 2) := by decide +kernel
theorem dX4_leastThing_5 : decode cX4_leastThing 5 = .ok (.if_icmp .ge 20, 3) := by decide +kernel
theorem dX4_leastThing_8 : decode cX4_leastThing 8 = .ok (.iload_n 0, 1) := by decide +kernel
theorem dX4_leastThing_9 : decode cX4_leastThing 9 = .ok (.iload_n 1, 1) := by decide +kernel
theorem dX4_leastThing_10 : decode cX4_leastThing 10 = .ok (.ishr, 1) := by decide +kernel
theorem dX4_leastThing_11 : decode cX4_leastThing 11 = .ok (.iconst 1, 1) := by decide +kernel
theorem dX4_leastThing_12 : decode cX4_leastThing 12 = .ok (.iand, 1) := by decide +kernel
theorem dX4_leastThing_13 : decode cX4_leastThing 13 = .ok (.iconst 1, 1) := by decide +kernel
theorem dX4_leastThing_14 : decode cX4_leastThing 14 = .ok (.if_icmp .ne 5, 3) := by decide +kernel
theorem dX4_leastThing_17 : decode cX4_leastThing 17 = .ok (.iload_n 1, 1) := by decide +kernel
theorem dX4_leastThing_18 : decode cX4_leastThing 18 = .ok (.ireturn, 1) := by decide +kernel
theorem dX4_leastThing_19 : decode cX4_leastThing 19 = .ok (.iinc 1 1, 3) := by decide +kernel
theorem dX4_leastThing_22 : decode cX4_leastThing 22 = .ok (.goto (-20), 3) := by decide +kernel
theorem dX4_leastThing_25 : decode cX4_leastThing 25 = .ok (.iconst 0, 1) := by decide +kernel
theorem dX4_leastThing_26 : decode cX4_leastThing 26 = .ok (.ireturn, 1) := by decide +kernel
theorem dX4_measureAll_0 : decode cX4_measureAll 0 = .ok (.iconst 0, 1) := by decide +kernel
theorem dX4_measureAll_1 : decode cX4_measureAll 1 = .ok (.istore_n 3, 1) := by decide +kernel
theorem dX4_measureAll_2 : decode cX4_measureAll 2 = .ok (.iload_n 3, 1) := by decide +kernel
theorem dX4_measureAll_3 : decode cX4_measureAll 3 = .ok (.aload_n 0, 1) := by decide +kernel
theorem dX4_measureAll_4 : decode cX4_measureAll 4 = .ok (.invokevirtual 132, 3) := by decide +kernel
theorem dX4_measureAll_7 : decode cX4_measureAll 7 = .ok (.if_icmp .ge 19, 3) := by decide +kernel
theorem dX4_measureAll_10 : decode cX4_measureAll 10 = .ok (.aload_n 2, 1) := by decide +kernel
theorem dX4_measureAll_11 : decode cX4_measureAll 11 = .ok (.iload_n 3, 1) := by decide +kernel
theorem dX4_measureAll_12 : decode cX4_measureAll 12 = .ok (.aload_n 0, 1) := by decide +kernel
theorem dX4_measureAll_13 : decode cX4_measureAll 13 = .ok (.iload_n 1, 1) := by decide +kernel
theorem dX4_measureAll_14 : decode cX4_measureAll 14 = .ok (.iload_n 3, 1) := by decide +kernel
theorem dX4_measureAll_15 : decode cX4_measureAll 15 = .ok (.aload_n 2, 1) := by decide +kernel
theorem dX4_measureAll_16 : decode cX4_measureAll 16 = .ok (.invokestatic 259, 3) := by decide +kernel
theorem dX4_measureAll_19 : decode cX4_measureAll 19 = .ok (.iastore, 1) := by decide +kernel
theorem dX4_measureAll_20 : decode cX4_measureAll 20 = .ok (.iinc 3 1, 3) := by decide +kernel
theorem dX4_measureAll_23 : decode cX4_measureAll 23 = .ok (.goto (-21), 3) := by decide +kernel
theorem dX4_measureAll_26 : decode cX4_measureAll 26 = .ok (.return_, 1) := by decide +kernel
theorem dX4_measureSet_0 : decode cX4_measureSet 0 = .ok (.iload_n 1, 1) := by decide +kernel
theorem dX4_measureSet_1 : decode cX4_measureSet 1 = .ok (.tableswitch 105 0 6 #[43, 52, 69, 69, 69, 85, 100], 43) := by decide +kernel
theorem dX4_measureSet_44 : decode cX4_measureSet 44 = .ok (.aload_n 0, 1) := by decide +kernel
theorem dX4_measureSet_45 : decode cX4_measureSet 45 = .ok (.getfield 106, 3) := by decide +kernel
theorem dX4_measureSet_48 : decode cX4_measureSet 48 = .ok (.iconst 4, 1) := by decide +kernel
theorem dX4_measureSet_49 : decode cX4_measureSet 49 = .ok (.aaload, 1) := by decide +kernel
theorem dX4_measureSet_50 : decode cX4_measureSet 50 = .ok (.iload_n 2, 1) := by decide +kernel
theorem dX4_measureSet_51 : decode cX4_measureSet 51 = .ok (.iaload, 1) := by decide +kernel
theorem dX4_measureSet_52 : decode cX4_measureSet 52 = .ok (.ireturn, 1) := by decide +kernel
theorem dX4_measureSet_53 : decode cX4_measureSet 53 = .ok (.aload_n 0, 1) := by decide +kernel
theorem dX4_measureSet_54 : decode cX4_measureSet 54 = .ok (.getfield 106, 3) := by decide +kernel
theorem dX4_measureSet_57 : decode cX4_measureSet 57 = .ok (.iconst 4, 1) := by decide +kernel
theorem dX4_measureSet_58 : decode cX4_measureSet 58 = .ok (.aaload, 1) := by decide +kernel
theorem dX4_measureSet_59 : decode cX4_measureSet 59 = .ok (.iload_n 2, 1) := by decide +kernel
theorem dX4_measureSet_60 : decode cX4_measureSet 60 = .ok (.iaload, 1) := by decide +kernel
theorem dX4_measureSet_61 : decode cX4_measureSet 61 = .ok (.ifCond .le 7, 3) := by decide +kernel
theorem dX4_measureSet_64 : decode cX4_measureSet 64 = .ok (.iconst 1, 1) := by decide +kernel
theorem dX4_measureSet_65 : decode cX4_measureSet 65 = .ok (.goto 4, 3) := by decide +kernel
theorem dX4_measureSet_68 : decode cX4_measureSet 68 = .ok (.iconst 0, 1) := by decide +kernel
theorem dX4_measureSet_69 : decode cX4_measureSet 69 = .ok (.ireturn, 1) := by decide +kernel
theorem dX4_measureSet_70 : decode cX4_measureSet 70 = .ok (.iload_n 2, 1) := by decide +kernel
theorem dX4_measureSet_71 : decode cX4_measureSet 71 = .ok (.ifCond .ne 7, 3) := by decide +kernel
theorem dX4_measureSet_74 : decode cX4_measureSet 74 = .ok (.iconst 1, 1) := by decide +kernel
theorem dX4_measureSet_75 : decode cX4_measureSet 75 = .ok (.goto 10, 3) := by decide +kernel
theorem dX4_measureSet_78 : decode cX4_measureSet 78 = .ok (.aload_n 0, 1) := by decide +kernel
theorem dX4_measureSet_79 : decode cX4_measureSet 79 = .ok (.iload_n 1, 1) := by decide +kernel
theorem dX4_measureSet_80 : decode cX4_measureSet 80 = .ok (.iload_n 2, 1) := by decide +kernel
theorem dX4_measureSet_81 : decode cX4_measureSet 81 = .ok (.aload_n 3, 1) := by decide +kernel
theorem dX4_measureSet_82 : decode cX4_measureSet 82 = .ok (.invokestatic 263, 3) := by decide +kernel
theorem dX4_measureSet_85 : decode cX4_measureSet 85 = .ok (.ireturn, 1) := by decide +kernel
theorem dX4_measureSet_86 : decode cX4_measureSet 86 = .ok (.aload_n 0, 1) := by decide +kernel
theorem dX4_measureSet_87 : decode cX4_measureSet 87 = .ok (.iload_n 2, 1) := by decide +kernel
theorem dX4_measureSet_88 : decode cX4_measureSet 88 = .ok (.aload_n 3, 1) := by decide +kernel
theorem dX4_measureSet_89 : decode cX4_measureSet 89 = .ok (.invokestatic 266, 3) := by decide +kernel
theorem dX4_measureSet_92 : decode cX4_measureSet 92 = .ok (.ifCond .eq 7, 3) := by decide +kernel
theorem dX4_measureSet_95 : decode cX4_measureSet 95 = .ok (.iconst 1, 1) := by decide +kernel
theorem dX4_measureSet_96 : decode cX4_measureSet 96 = .ok (.goto 4, 3) := by decide +kernel
theorem dX4_measureSet_99 : decode cX4_measureSet 99 = .ok (.iconst 0, 1) := by decide +kernel
theorem dX4_measureSet_100 : decode cX4_measureSet 100 = .ok (.ireturn, 1) := by decide +kernel
theorem dX4_measureSet_101 : decode cX4_measureSet 101 = .ok (.iload_n 2, 1) := by decide +kernel
theorem dX4_measureSet_102 : decode cX4_measureSet 102 = .ok (.invokestatic 270, 3) := by decide +kernel
theorem dX4_measureSet_105 : decode cX4_measureSet 105 = .ok (.ireturn, 1) := by decide +kernel
theorem dX4_measureSet_106 : decode cX4_measureSet 106 = .ok (.iload_n 2, 1) := by decide +kernel
theorem dX4_measureSet_107 : decode cX4_measureSet 107 = .ok (.ifCond .ne 7, 3) := by decide +kernel
theorem dX4_measureSet_110 : decode cX4_measureSet 110 = .ok (.iconst 1, 1) := by decide +kernel
theorem dX4_measureSet_111 : decode cX4_measureSet 111 = .ok (.goto 4, 3) := by decide +kernel
theorem dX4_measureSet_114 : decode cX4_measureSet 114 = .ok (.iconst 0, 1) := by decide +kernel
theorem dX4_measureSet_115 : decode cX4_measureSet 115 = .ok (.ireturn, 1) := by decide +kernel
theorem dX4_measurePairs_0 : decode cX4_measurePairs 0 = .ok (.iload_n 2, 1) := by decide +kernel
theorem dX4_measurePairs_1 : decode cX4_measurePairs 1 = .ok (.invokestatic 275, 3) := by decide +kernel
theorem dX4_measurePairs_4 : decode cX4_measurePairs 4 = .ok (.istore 4, 2) := by decide +kernel
theorem dX4_measurePairs_6 : decode cX4_measurePairs 6 = .ok (.iload_n 2, 1) := by decide +kernel
theorem dX4_measurePairs_7 : decode cX4_measurePairs 7 = .ok (.iload_n 2, 1) := by decide +kernel
theorem dX4_measurePairs_8 : decode cX4_measurePairs 8 = .ok (.iconst 1, 1) := by decide +kernel
theorem dX4_measurePairs_9 : decode cX4_measurePairs 9 = .ok (.isub, 1) := by decide +kernel
theorem dX4_measurePairs_10 : decode cX4_measurePairs 10 = .ok (.iand, 1) := by decide +kernel
theorem dX4_measurePairs_11 : decode cX4_measurePairs 11 = .ok (.istore 5, 2) := by decide +kernel
theorem dX4_measurePairs_13 : decode cX4_measurePairs 13 = .ok (.aload_n 0, 1) := by decide +kernel
theorem dX4_measurePairs_14 : decode cX4_measurePairs 14 = .ok (.iload 4, 2) := by decide +kernel
theorem dX4_measurePairs_16 : decode cX4_measurePairs 16 = .ok (.invokevirtual 113, 3) := by decide +kernel
theorem dX4_measurePairs_19 : decode cX4_measurePairs 19 = .ok (.iload 5, 2) := by decide +kernel
theorem dX4_measurePairs_21 : decode cX4_measurePairs 21 = .ok (.iand, 1) := by decide +kernel
theorem dX4_measurePairs_22 : decode cX4_measurePairs 22 = .ok (.istore 6, 2) := by decide +kernel
theorem dX4_measurePairs_24 : decode cX4_measurePairs 24 = .ok (.iload_n 1, 1) := by decide +kernel
theorem dX4_measurePairs_25 : decode cX4_measurePairs 25 = .ok (.iconst 2, 1) := by decide +kernel
theorem dX4_measurePairs_26 : decode cX4_measurePairs 26 = .ok (.if_icmp .ne 17, 3) := by decide +kernel
theorem dX4_measurePairs_29 : decode cX4_measurePairs 29 = .ok (.iload 6, 2) := by decide +kernel
theorem dX4_measurePairs_31 : decode cX4_measurePairs 31 = .ok (.ifCond .ne 10, 3) := by decide +kernel
theorem dX4_measurePairs_34 : decode cX4_measurePairs 34 = .ok (.aload_n 3, 1) := by decide +kernel
theorem dX4_measurePairs_35 : decode cX4_measurePairs 35 = .ok (.iload 5, 2) := by decide +kernel
theorem dX4_measurePairs_37 : decode cX4_measurePairs 37 = .ok (.iaload, 1) := by decide +kernel
theorem dX4_measurePairs_38 : decode cX4_measurePairs 38 = .ok (.goto 4, 3) := by decide +kernel
theorem dX4_measurePairs_41 : decode cX4_measurePairs 41 = .ok (.iconst 0, 1) := by decide +kernel
theorem dX4_measurePairs_42 : decode cX4_measurePairs 42 = .ok (.ireturn, 1) := by decide +kernel
theorem dX4_measurePairs_43 : decode cX4_measurePairs 43 = .ok (.iload_n 1, 1) := by decide +kernel
theorem dX4_measurePairs_44 : decode cX4_measurePairs 44 = .ok (.iconst 3, 1) := by decide +kernel
theorem dX4_measurePairs_45 : decode cX4_measurePairs 45 = .ok (.if_icmp .ne 19, 3) := by decide +kernel
theorem dX4_measurePairs_48 : decode cX4_measurePairs 48 = .ok (.iload 6, 2) := by decide +kernel
theorem dX4_measurePairs_50 : decode cX4_measurePairs 50 = .ok (.iload 5, 2) := by decide +kernel
theorem dX4_measurePairs_52 : decode cX4_measurePairs 52 = .ok (.if_icmp .ne 10, 3) := by decide +kernel
theorem dX4_measurePairs_55 : decode cX4_measurePairs 55 = .ok (.aload_n 3, 1) := by decide +kernel
theorem dX4_measurePairs_56 : decode cX4_measurePairs 56 = .ok (.iload 5, 2) := by decide +kernel
theorem dX4_measurePairs_58 : decode cX4_measurePairs 58 = .ok (.iaload, 1) := by decide +kernel
theorem dX4_measurePairs_59 : decode cX4_measurePairs 59 = .ok (.goto 4, 3) := by decide +kernel
theorem dX4_measurePairs_62 : decode cX4_measurePairs 62 = .ok (.iconst 0, 1) := by decide +kernel
theorem dX4_measurePairs_63 : decode cX4_measurePairs 63 = .ok (.ireturn, 1) := by decide +kernel
theorem dX4_measurePairs_64 : decode cX4_measurePairs 64 = .ok (.aload_n 3, 1) := by decide +kernel
theorem dX4_measurePairs_65 : decode cX4_measurePairs 65 = .ok (.iload 5, 2) := by decide +kernel
theorem dX4_measurePairs_67 : decode cX4_measurePairs 67 = .ok (.iaload, 1) := by decide +kernel
theorem dX4_measurePairs_68 : decode cX4_measurePairs 68 = .ok (.iload 6, 2) := by decide +kernel
theorem dX4_measurePairs_70 : decode cX4_measurePairs 70 = .ok (.invokestatic 270, 3) := by decide +kernel
theorem dX4_measurePairs_73 : decode cX4_measurePairs 73 = .ok (.ishl, 1) := by decide +kernel
theorem dX4_measurePairs_74 : decode cX4_measurePairs 74 = .ok (.ireturn, 1) := by decide +kernel
theorem dX4_hangsWhole_0 : decode cX4_hangsWhole 0 = .ok (.iconst 0, 1) := by decide +kernel
theorem dX4_hangsWhole_1 : decode cX4_hangsWhole 1 = .ok (.istore_n 3, 1) := by decide +kernel
theorem dX4_hangsWhole_2 : decode cX4_hangsWhole 2 = .ok (.iload_n 3, 1) := by decide +kernel
theorem dX4_hangsWhole_3 : decode cX4_hangsWhole 3 = .ok (.aload_n 0, 1) := by decide +kernel
theorem dX4_hangsWhole_4 : decode cX4_hangsWhole 4 = .ok (.getfield 92, 3) := by decide +kernel
theorem dX4_hangsWhole_7 : decode cX4_hangsWhole 7 = .ok (.if_icmp .ge 50, 3) := by decide +kernel
theorem dX4_hangsWhole_10 : decode cX4_hangsWhole 10 = .ok (.iload_n 1, 1) := by decide +kernel
theorem dX4_hangsWhole_11 : decode cX4_hangsWhole 11 = .ok (.iconst 1, 1) := by decide +kernel
theorem dX4_hangsWhole_12 : decode cX4_hangsWhole 12 = .ok (.iload_n 3, 1) := by decide +kernel
theorem dX4_hangsWhole_13 : decode cX4_hangsWhole 13 = .ok (.ishl, 1) := by decide +kernel
theorem dX4_hangsWhole_14 : decode cX4_hangsWhole 14 = .ok (.ixor, 1) := by decide +kernel
theorem dX4_hangsWhole_15 : decode cX4_hangsWhole 15 = .ok (.istore 4, 2) := by decide +kernel
theorem dX4_hangsWhole_17 : decode cX4_hangsWhole 17 = .ok (.iload 4, 2) := by decide +kernel
theorem dX4_hangsWhole_19 : decode cX4_hangsWhole 19 = .ok (.ifCond .ne 5, 3) := by decide +kernel
theorem dX4_hangsWhole_22 : decode cX4_hangsWhole 22 = .ok (.iconst 1, 1) := by decide +kernel
theorem dX4_hangsWhole_23 : decode cX4_hangsWhole 23 = .ok (.ireturn, 1) := by decide +kernel
theorem dX4_hangsWhole_24 : decode cX4_hangsWhole 24 = .ok (.iload 4, 2) := by decide +kernel
theorem dX4_hangsWhole_26 : decode cX4_hangsWhole 26 = .ok (.iload_n 1, 1) := by decide +kernel
theorem dX4_hangsWhole_27 : decode cX4_hangsWhole 27 = .ok (.if_icmp .ge 24, 3) := by decide +kernel
theorem dX4_hangsWhole_30 : decode cX4_hangsWhole 30 = .ok (.aload_n 2, 1) := by decide +kernel
theorem dX4_hangsWhole_31 : decode cX4_hangsWhole 31 = .ok (.iload 4, 2) := by decide +kernel
theorem dX4_hangsWhole_33 : decode cX4_hangsWhole 33 = .ok (.iaload, 1) := by decide +kernel
theorem dX4_hangsWhole_34 : decode cX4_hangsWhole 34 = .ok (.iconst 1, 1) := by decide +kernel
theorem dX4_hangsWhole_35 : decode cX4_hangsWhole 35 = .ok (.if_icmp .ne 16, 3) := by decide +kernel
theorem dX4_hangsWhole_38 : decode cX4_hangsWhole 38 = .ok (.aload_n 0, 1) := by decide +kernel
theorem dX4_hangsWhole_39 : decode cX4_hangsWhole 39 = .ok (.iload_n 3, 1) := by decide +kernel
theorem dX4_hangsWhole_40 : decode cX4_hangsWhole 40 = .ok (.invokevirtual 113, 3) := by decide +kernel
theorem dX4_hangsWhole_43 : decode cX4_hangsWhole 43 = .ok (.iload 4, 2) := by decide +kernel
theorem dX4_hangsWhole_45 : decode cX4_hangsWhole 45 = .ok (.iand, 1) := by decide +kernel
theorem dX4_hangsWhole_46 : decode cX4_hangsWhole 46 = .ok (.ifCond .eq 5, 3) := by decide +kernel
theorem dX4_hangsWhole_49 : decode cX4_hangsWhole 49 = .ok (.iconst 1, 1) := by decide +kernel
theorem dX4_hangsWhole_50 : decode cX4_hangsWhole 50 = .ok (.ireturn, 1) := by decide +kernel
theorem dX4_hangsWhole_51 : decode cX4_hangsWhole 51 = .ok (.iinc 3 1, 3) := by decide +kernel
theorem dX4_hangsWhole_54 : decode cX4_hangsWhole 54 = .ok (.goto (-52), 3) := by decide +kernel
theorem dX4_hangsWhole_57 : decode cX4_hangsWhole 57 = .ok (.iconst 0, 1) := by decide +kernel
theorem dX4_hangsWhole_58 : decode cX4_hangsWhole 58 = .ok (.ireturn, 1) := by decide +kernel
theorem dX4_priceParts_0 : decode cX4_priceParts 0 = .ok (.aload_n 0, 1) := by decide +kernel
theorem dX4_priceParts_1 : decode cX4_priceParts 1 = .ok (.getfield 43, 3) := by decide +kernel
theorem dX4_priceParts_4 : decode cX4_priceParts 4 = .ok (.iconst 0, 1) := by decide +kernel
theorem dX4_priceParts_5 : decode cX4_priceParts 5 = .ok (.iconst 0, 1) := by decide +kernel
theorem dX4_priceParts_6 : decode cX4_priceParts 6 = .ok (.iastore, 1) := by decide +kernel
theorem dX4_priceParts_7 : decode cX4_priceParts 7 = .ok (.iconst 1, 1) := by decide +kernel
theorem dX4_priceParts_8 : decode cX4_priceParts 8 = .ok (.istore_n 2, 1) := by decide +kernel
theorem dX4_priceParts_9 : decode cX4_priceParts 9 = .ok (.iload_n 2, 1) := by decide +kernel
theorem dX4_priceParts_10 : decode cX4_priceParts 10 = .ok (.iload_n 1, 1) := by decide +kernel
theorem dX4_priceParts_11 : decode cX4_priceParts 11 = .ok (.if_icmp .gt 28, 3) := by decide +kernel
theorem dX4_priceParts_14 : decode cX4_priceParts 14 = .ok (.iload_n 2, 1) := by decide +kernel
theorem dX4_priceParts_15 : decode cX4_priceParts 15 = .ok (.iload_n 1, 1) := by decide +kernel
theorem dX4_priceParts_16 : decode cX4_priceParts 16 = .ok (.iconst (-1), 1) := by decide +kernel
theorem dX4_priceParts_17 : decode cX4_priceParts 17 = .ok (.ixor, 1) := by decide +kernel
theorem dX4_priceParts_18 : decode cX4_priceParts 18 = .ok (.iand, 1) := by decide +kernel
theorem dX4_priceParts_19 : decode cX4_priceParts 19 = .ok (.ifCond .ne 14, 3) := by decide +kernel
theorem dX4_priceParts_22 : decode cX4_priceParts 22 = .ok (.aload_n 0, 1) := by decide +kernel
theorem dX4_priceParts_23 : decode cX4_priceParts 23 = .ok (.getfield 43, 3) := by decide +kernel
theorem dX4_priceParts_26 : decode cX4_priceParts 26 = .ok (.iload_n 2, 1) := by decide +kernel
theorem dX4_priceParts_27 : decode cX4_priceParts 27 = .ok (.aload_n 0, 1) := by decide +kernel
theorem dX4_priceParts_28 : decode cX4_priceParts 28 = .ok (.iload_n 2, 1) := by decide +kernel
theorem dX4_priceParts_29 : decode cX4_priceParts 29 = .ok (.invokevirtual 278, 3) := by decide +kernel
theorem dX4_priceParts_32 : decode cX4_priceParts 32 = .ok (.iastore, 1) := by decide +kernel
theorem dX4_priceParts_33 : decode cX4_priceParts 33 = .ok (.iinc 2 1, 3) := by decide +kernel
theorem dX4_priceParts_36 : decode cX4_priceParts 36 = .ok (.goto (-27), 3) := by decide +kernel
theorem dX4_priceParts_39 : decode cX4_priceParts 39 = .ok (.return_, 1) := by decide +kernel
theorem dX4_leastPrice_0 : decode cX4_leastPrice 0 = .ok (.iload_n 1, 1) := by decide +kernel
theorem dX4_leastPrice_1 : decode cX4_leastPrice 1 = .ok (.iload_n 1, 1) := by decide +kernel
theorem dX4_leastPrice_2 : decode cX4_leastPrice 2 = .ok (.iconst 1, 1) := by decide +kernel
theorem dX4_leastPrice_3 : decode cX4_leastPrice 3 = .ok (.isub, 1) := by decide +kernel
theorem dX4_leastPrice_4 : decode cX4_leastPrice 4 = .ok (.iand, 1) := by decide +kernel
theorem dX4_leastPrice_5 : decode cX4_leastPrice 5 = .ok (.istore_n 2, 1) := by decide +kernel
theorem dX4_leastPrice_6 : decode cX4_leastPrice 6 = .ok (.aload_n 0, 1) := by decide +kernel
theorem dX4_leastPrice_7 : decode cX4_leastPrice 7 = .ok (.iload_n 1, 1) := by decide +kernel
theorem dX4_leastPrice_8 : decode cX4_leastPrice 8 = .ok (.iload_n 1, 1) := by decide +kernel
theorem dX4_leastPrice_9 : decode cX4_leastPrice 9 = .ok (.iload_n 2, 1) := by decide +kernel
theorem dX4_leastPrice_10 : decode cX4_leastPrice 10 = .ok (.ixor, 1) := by decide +kernel
theorem dX4_leastPrice_11 : decode cX4_leastPrice 11 = .ok (.invokevirtual 281, 3) := by decide +kernel
theorem dX4_leastPrice_14 : decode cX4_leastPrice 14 = .ok (.istore_n 3, 1) := by decide +kernel
theorem dX4_leastPrice_15 : decode cX4_leastPrice 15 = .ok (.iload_n 2, 1) := by decide +kernel
theorem dX4_leastPrice_16 : decode cX4_leastPrice 16 = .ok (.istore 4, 2) := by decide +kernel
theorem dX4_leastPrice_18 : decode cX4_leastPrice 18 = .ok (.iload 4, 2) := by decide +kernel
theorem dX4_leastPrice_20 : decode cX4_leastPrice 20 = .ok (.ifCond .le 30, 3) := by decide +kernel
theorem dX4_leastPrice_23 : decode cX4_leastPrice 23 = .ok (.iload_n 3, 1) := by decide +kernel
theorem dX4_leastPrice_24 : decode cX4_leastPrice 24 = .ok (.aload_n 0, 1) := by decide +kernel
theorem dX4_leastPrice_25 : decode cX4_leastPrice 25 = .ok (.iload_n 1, 1) := by decide +kernel
theorem dX4_leastPrice_26 : decode cX4_leastPrice 26 = .ok (.iload_n 1, 1) := by decide +kernel
theorem dX4_leastPrice_27 : decode cX4_leastPrice 27 = .ok (.iload_n 2, 1) := by decide +kernel
theorem dX4_leastPrice_28 : decode cX4_leastPrice 28 = .ok (.ixor, 1) := by decide +kernel
theorem dX4_leastPrice_29 : decode cX4_leastPrice 29 = .ok (.iload 4, 2) := by decide +kernel
theorem dX4_leastPrice_31 : decode cX4_leastPrice 31 = .ok (.ior, 1) := by decide +kernel
theorem dX4_leastPrice_32 : decode cX4_leastPrice 32 = .ok (.invokevirtual 281, 3) := by decide +kernel
theorem dX4_leastPrice_35 : decode cX4_leastPrice 35 = .ok (.invokestatic 284, 3) := by decide +kernel
theorem dX4_leastPrice_38 : decode cX4_leastPrice 38 = .ok (.istore_n 3, 1) := by decide +kernel
theorem dX4_leastPrice_39 : decode cX4_leastPrice 39 = .ok (.iload 4, 2) := by decide +kernel
theorem dX4_leastPrice_41 : decode cX4_leastPrice 41 = .ok (.iconst 1, 1) := by decide +kernel
theorem dX4_leastPrice_42 : decode cX4_leastPrice 42 = .ok (.isub, 1) := by decide +kernel
theorem dX4_leastPrice_43 : decode cX4_leastPrice 43 = .ok (.iload_n 2, 1) := by decide +kernel
theorem dX4_leastPrice_44 : decode cX4_leastPrice 44 = .ok (.iand, 1) := by decide +kernel
theorem dX4_leastPrice_45 : decode cX4_leastPrice 45 = .ok (.istore 4, 2) := by decide +kernel
theorem dX4_leastPrice_47 : decode cX4_leastPrice 47 = .ok (.goto (-29), 3) := by decide +kernel
theorem dX4_leastPrice_50 : decode cX4_leastPrice 50 = .ok (.iload_n 3, 1) := by decide +kernel
theorem dX4_leastPrice_51 : decode cX4_leastPrice 51 = .ok (.ireturn, 1) := by decide +kernel
theorem dX4_priceWith_0 : decode cX4_priceWith 0 = .ok (.aload_n 0, 1) := by decide +kernel
theorem dX4_priceWith_1 : decode cX4_priceWith 1 = .ok (.getfield 10, 3) := by decide +kernel
theorem dX4_priceWith_4 : decode cX4_priceWith 4 = .ok (.getfield 106, 3) := by decide +kernel
theorem dX4_priceWith_7 : decode cX4_priceWith 7 = .ok (.iconst 4, 1) := by decide +kernel
theorem dX4_priceWith_8 : decode cX4_priceWith 8 = .ok (.aaload, 1) := by decide +kernel
theorem dX4_priceWith_9 : decode cX4_priceWith 9 = .ok (.iload_n 2, 1) := by decide +kernel
theorem dX4_priceWith_10 : decode cX4_priceWith 10 = .ok (.iaload, 1) := by decide +kernel
theorem dX4_priceWith_11 : decode cX4_priceWith 11 = .ok (.istore_n 3, 1) := by decide +kernel
theorem dX4_priceWith_12 : decode cX4_priceWith 12 = .ok (.aload_n 0, 1) := by decide +kernel
theorem dX4_priceWith_13 : decode cX4_priceWith 13 = .ok (.getfield 43, 3) := by decide +kernel
theorem dX4_priceWith_16 : decode cX4_priceWith 16 = .ok (.iload_n 1, 1) := by decide +kernel
theorem dX4_priceWith_17 : decode cX4_priceWith 17 = .ok (.iload_n 2, 1) := by decide +kernel
theorem dX4_priceWith_18 : decode cX4_priceWith 18 = .ok (.ixor, 1) := by decide +kernel
theorem dX4_priceWith_19 : decode cX4_priceWith 19 = .ok (.iaload, 1) := by decide +kernel
theorem dX4_priceWith_20 : decode cX4_priceWith 20 = .ok (.istore 4, 2) := by decide +kernel
theorem dX4_priceWith_22 : decode cX4_priceWith 22 = .ok (.iload_n 3, 1) := by decide +kernel
theorem dX4_priceWith_23 : decode cX4_priceWith 23 = .ok (.ifCond .eq 10, 3) := by decide +kernel
theorem dX4_priceWith_26 : decode cX4_priceWith 26 = .ok (.iload 4, 2) := by decide +kernel
theorem dX4_priceWith_28 : decode cX4_priceWith 28 = .ok (.ldc 189, 2) := by decide +kernel
theorem dX4_priceWith_30 : decode cX4_priceWith 30 = .ok (.if_icmp .lt 8, 3) := by decide +kernel
theorem dX4_priceWith_33 : decode cX4_priceWith 33 = .ok (.ldc 189, 2) := by decide +kernel
theorem dX4_priceWith_35 : decode cX4_priceWith 35 = .ok (.goto 7, 3) := by decide +kernel
theorem dX4_priceWith_38 : decode cX4_priceWith 38 = .ok (.iload_n 3, 1) := by decide +kernel
theorem dX4_priceWith_39 : decode cX4_priceWith 39 = .ok (.iload 4, 2) := by decide +kernel
theorem dX4_priceWith_41 : decode cX4_priceWith 41 = .ok (.iadd, 1) := by decide +kernel
theorem dX4_priceWith_42 : decode cX4_priceWith 42 = .ok (.ireturn, 1) := by decide +kernel
theorem dX4_partOrNone_0 : decode cX4_partOrNone 0 = .ok (.aload_n 0, 1) := by decide +kernel
theorem dX4_partOrNone_1 : decode cX4_partOrNone 1 = .ok (.getfield 10, 3) := by decide +kernel
theorem dX4_partOrNone_4 : decode cX4_partOrNone 4 = .ok (.iload_n 1, 1) := by decide +kernel
theorem dX4_partOrNone_5 : decode cX4_partOrNone 5 = .ok (.invokevirtual 102, 3) := by decide +kernel
theorem dX4_partOrNone_8 : decode cX4_partOrNone 8 = .ok (.ifCond .eq 13, 3) := by decide +kernel
theorem dX4_partOrNone_11 : decode cX4_partOrNone 11 = .ok (.iload_n 2, 1) := by decide +kernel
theorem dX4_partOrNone_12 : decode cX4_partOrNone 12 = .ok (.ifCond .lt 9, 3) := by decide +kernel
theorem dX4_partOrNone_15 : decode cX4_partOrNone 15 = .ok (.iload_n 2, 1) := by decide +kernel
theorem dX4_partOrNone_16 : decode cX4_partOrNone 16 = .ok (.bipush 8, 2) := by decide +kernel
theorem dX4_partOrNone_18 : decode cX4_partOrNone 18 = .ok (.if_icmp .lt 5, 3) := by decide +kernel
theorem dX4_partOrNone_21 : decode cX4_partOrNone 21 = .ok (.iconst (-1), 1) := by decide +kernel
theorem dX4_partOrNone_22 : decode cX4_partOrNone 22 = .ok (.ireturn, 1) := by decide +kernel
theorem dX4_partOrNone_23 : decode cX4_partOrNone 23 = .ok (.aload_n 0, 1) := by decide +kernel
theorem dX4_partOrNone_24 : decode cX4_partOrNone 24 = .ok (.iload_n 1, 1) := by decide +kernel
theorem dX4_partOrNone_25 : decode cX4_partOrNone 25 = .ok (.invokevirtual 186, 3) := by decide +kernel
theorem dX4_partOrNone_28 : decode cX4_partOrNone 28 = .ok (.aload_n 0, 1) := by decide +kernel
theorem dX4_partOrNone_29 : decode cX4_partOrNone 29 = .ok (.getfield 43, 3) := by decide +kernel
theorem dX4_partOrNone_32 : decode cX4_partOrNone 32 = .ok (.iload_n 1, 1) := by decide +kernel
theorem dX4_partOrNone_33 : decode cX4_partOrNone 33 = .ok (.iaload, 1) := by decide +kernel
theorem dX4_partOrNone_34 : decode cX4_partOrNone 34 = .ok (.ldc 189, 2) := by decide +kernel
theorem dX4_partOrNone_36 : decode cX4_partOrNone 36 = .ok (.if_icmp .lt 5, 3) := by decide +kernel
theorem dX4_partOrNone_39 : decode cX4_partOrNone 39 = .ok (.iconst (-1), 1) := by decide +kernel
theorem dX4_partOrNone_40 : decode cX4_partOrNone 40 = .ok (.ireturn, 1) := by decide +kernel
theorem dX4_partOrNone_41 : decode cX4_partOrNone 41 = .ok (.iload_n 1, 1) := by decide +kernel
theorem dX4_partOrNone_42 : decode cX4_partOrNone 42 = .ok (.istore_n 3, 1) := by decide +kernel
theorem dX4_partOrNone_43 : decode cX4_partOrNone 43 = .ok (.iconst 0, 1) := by decide +kernel
theorem dX4_partOrNone_44 : decode cX4_partOrNone 44 = .ok (.istore 4, 2) := by decide +kernel
theorem dX4_partOrNone_46 : decode cX4_partOrNone 46 = .ok (.iload 4, 2) := by decide +kernel
theorem dX4_partOrNone_48 : decode cX4_partOrNone 48 = .ok (.iload_n 2, 1) := by decide +kernel
theorem dX4_partOrNone_49 : decode cX4_partOrNone 49 = .ok (.if_icmp .ge 17, 3) := by decide +kernel
theorem dX4_partOrNone_52 : decode cX4_partOrNone 52 = .ok (.iload_n 3, 1) := by decide +kernel
theorem dX4_partOrNone_53 : decode cX4_partOrNone 53 = .ok (.aload_n 0, 1) := by decide +kernel
theorem dX4_partOrNone_54 : decode cX4_partOrNone 54 = .ok (.iload_n 3, 1) := by decide +kernel
theorem dX4_partOrNone_55 : decode cX4_partOrNone 55 = .ok (.invokevirtual 289, 3) := by decide +kernel
theorem dX4_partOrNone_58 : decode cX4_partOrNone 58 = .ok (.ixor, 1) := by decide +kernel
theorem dX4_partOrNone_59 : decode cX4_partOrNone 59 = .ok (.istore_n 3, 1) := by decide +kernel
theorem dX4_partOrNone_60 : decode cX4_partOrNone 60 = .ok (.iinc 4 1, 3) := by decide +kernel
theorem dX4_partOrNone_63 : decode cX4_partOrNone 63 = .ok (.goto (-17), 3) := by decide +kernel
theorem dX4_partOrNone_66 : decode cX4_partOrNone 66 = .ok (.iload_n 3, 1) := by decide +kernel
theorem dX4_partOrNone_67 : decode cX4_partOrNone 67 = .ok (.ifCond .ne 7, 3) := by decide +kernel
theorem dX4_partOrNone_70 : decode cX4_partOrNone 70 = .ok (.iconst (-1), 1) := by decide +kernel
theorem dX4_partOrNone_71 : decode cX4_partOrNone 71 = .ok (.goto 8, 3) := by decide +kernel
theorem dX4_partOrNone_74 : decode cX4_partOrNone 74 = .ok (.aload_n 0, 1) := by decide +kernel
theorem dX4_partOrNone_75 : decode cX4_partOrNone 75 = .ok (.iload_n 3, 1) := by decide +kernel
theorem dX4_partOrNone_76 : decode cX4_partOrNone 76 = .ok (.invokevirtual 289, 3) := by decide +kernel
theorem dX4_partOrNone_79 : decode cX4_partOrNone 79 = .ok (.ireturn, 1) := by decide +kernel
theorem dX4_firstPart_0 : decode cX4_firstPart 0 = .ok (.iload_n 1, 1) := by decide +kernel
theorem dX4_firstPart_1 : decode cX4_firstPart 1 = .ok (.iload_n 1, 1) := by decide +kernel
theorem dX4_firstPart_2 : decode cX4_firstPart 2 = .ok (.ineg, 1) := by decide +kernel
theorem dX4_firstPart_3 : decode cX4_firstPart 3 = .ok (.iand, 1) := by decide +kernel
theorem dX4_firstPart_4 : decode cX4_firstPart 4 = .ok (.istore_n 2, 1) := by decide +kernel
theorem dX4_firstPart_5 : decode cX4_firstPart 5 = .ok (.iconst 1, 1) := by decide +kernel
theorem dX4_firstPart_6 : decode cX4_firstPart 6 = .ok (.istore_n 3, 1) := by decide +kernel
theorem dX4_firstPart_7 : decode cX4_firstPart 7 = .ok (.iload_n 3, 1) := by decide +kernel
theorem dX4_firstPart_8 : decode cX4_firstPart 8 = .ok (.iload_n 1, 1) := by decide +kernel
theorem dX4_firstPart_9 : decode cX4_firstPart 9 = .ok (.if_icmp .gt 52, 3) := by decide +kernel
theorem dX4_firstPart_12 : decode cX4_firstPart 12 = .ok (.iload_n 3, 1) := by decide +kernel
theorem dX4_firstPart_13 : decode cX4_firstPart 13 = .ok (.iload_n 1, 1) := by decide +kernel
theorem dX4_firstPart_14 : decode cX4_firstPart 14 = .ok (.iconst (-1), 1) := by decide +kernel
theorem dX4_firstPart_15 : decode cX4_firstPart 15 = .ok (.ixor, 1) := by decide +kernel
theorem dX4_firstPart_16 : decode cX4_firstPart 16 = .ok (.iand, 1) := by decide +kernel
theorem dX4_firstPart_17 : decode cX4_firstPart 17 = .ok (.ifCond .ne 13, 3) := by decide +kernel
theorem dX4_firstPart_20 : decode cX4_firstPart 20 = .ok (.iload_n 3, 1) := by decide +kernel
theorem dX4_firstPart_21 : decode cX4_firstPart 21 = .ok (.iload_n 2, 1) := by decide +kernel
theorem dX4_firstPart_22 : decode cX4_firstPart 22 = .ok (.iand, 1) := by decide +kernel
theorem dX4_firstPart_23 : decode cX4_firstPart 23 = .ok (.ifCond .eq 7, 3) := by decide +kernel
theorem dX4_firstPart_26 : decode cX4_firstPart 26 = .ok (.iconst 1, 1) := by decide +kernel
theorem dX4_firstPart_27 : decode cX4_firstPart 27 = .ok (.goto 4, 3) := by decide +kernel
theorem dX4_firstPart_30 : decode cX4_firstPart 30 = .ok (.iconst 0, 1) := by decide +kernel
theorem dX4_firstPart_31 : decode cX4_firstPart 31 = .ok (.istore 4, 2) := by decide +kernel
theorem dX4_firstPart_33 : decode cX4_firstPart 33 = .ok (.iload 4, 2) := by decide +kernel
theorem dX4_firstPart_35 : decode cX4_firstPart 35 = .ok (.ifCond .eq 20, 3) := by decide +kernel
theorem dX4_firstPart_38 : decode cX4_firstPart 38 = .ok (.aload_n 0, 1) := by decide +kernel
theorem dX4_firstPart_39 : decode cX4_firstPart 39 = .ok (.iload_n 1, 1) := by decide +kernel
theorem dX4_firstPart_40 : decode cX4_firstPart 40 = .ok (.iload_n 3, 1) := by decide +kernel
theorem dX4_firstPart_41 : decode cX4_firstPart 41 = .ok (.invokevirtual 281, 3) := by decide +kernel
theorem dX4_firstPart_44 : decode cX4_firstPart 44 = .ok (.aload_n 0, 1) := by decide +kernel
theorem dX4_firstPart_45 : decode cX4_firstPart 45 = .ok (.getfield 43, 3) := by decide +kernel
theorem dX4_firstPart_48 : decode cX4_firstPart 48 = .ok (.iload_n 1, 1) := by decide +kernel
theorem dX4_firstPart_49 : decode cX4_firstPart 49 = .ok (.iaload, 1) := by decide +kernel
theorem dX4_firstPart_50 : decode cX4_firstPart 50 = .ok (.if_icmp .ne 5, 3) := by decide +kernel
theorem dX4_firstPart_53 : decode cX4_firstPart 53 = .ok (.iload_n 3, 1) := by decide +kernel
theorem dX4_firstPart_54 : decode cX4_firstPart 54 = .ok (.ireturn, 1) := by decide +kernel
theorem dX4_firstPart_55 : decode cX4_firstPart 55 = .ok (.iinc 3 1, 3) := by decide +kernel
theorem dX4_firstPart_58 : decode cX4_firstPart 58 = .ok (.goto (-51), 3) := by decide +kernel
theorem dX4_firstPart_61 : decode cX4_firstPart 61 = .ok (.iconst 0, 1) := by decide +kernel
theorem dX4_firstPart_62 : decode cX4_firstPart 62 = .ok (.ireturn, 1) := by decide +kernel
theorem dX4_paintFewest_0 : decode cX4_paintFewest 0 = .ok (.iconst 0, 1) := by decide +kernel
theorem dX4_paintFewest_1 : decode cX4_paintFewest 1 = .ok (.istore_n 2, 1) := by decide +kernel
theorem dX4_paintFewest_2 : decode cX4_paintFewest 2 = .ok (.iload_n 2, 1) := by decide +kernel
theorem dX4_paintFewest_3 : decode cX4_paintFewest 3 = .ok (.bipush 8, 2) := by decide +kernel
theorem dX4_paintFewest_5 : decode cX4_paintFewest 5 = .ok (.if_icmp .gt 49, 3) := by decide +kernel
theorem dX4_paintFewest_8 : decode cX4_paintFewest 8 = .ok (.iconst 0, 1) := by decide +kernel
theorem dX4_paintFewest_9 : decode cX4_paintFewest 9 = .ok (.istore_n 3, 1) := by decide +kernel
theorem dX4_paintFewest_10 : decode cX4_paintFewest 10 = .ok (.iload_n 3, 1) := by decide +kernel
theorem dX4_paintFewest_11 : decode cX4_paintFewest 11 = .ok (.bipush 8, 2) := by decide +kernel
theorem dX4_paintFewest_13 : decode cX4_paintFewest 13 = .ok (.if_icmp .ge 16, 3) := by decide +kernel
theorem dX4_paintFewest_16 : decode cX4_paintFewest 16 = .ok (.aload_n 0, 1) := by decide +kernel
theorem dX4_paintFewest_17 : decode cX4_paintFewest 17 = .ok (.getfield 50, 3) := by decide +kernel
theorem dX4_paintFewest_20 : decode cX4_paintFewest 20 = .ok (.iload_n 3, 1) := by decide +kernel
theorem dX4_paintFewest_21 : decode cX4_paintFewest 21 = .ok (.iconst 0, 1) := by decide +kernel
theorem dX4_paintFewest_22 : decode cX4_paintFewest 22 = .ok (.iastore, 1) := by decide +kernel
theorem dX4_paintFewest_23 : decode cX4_paintFewest 23 = .ok (.iinc 3 1, 3) := by decide +kernel
theorem dX4_paintFewest_26 : decode cX4_paintFewest 26 = .ok (.goto (-16), 3) := by decide +kernel
theorem dX4_paintFewest_29 : decode cX4_paintFewest 29 = .ok (.aload_n 0, 1) := by decide +kernel
theorem dX4_paintFewest_30 : decode cX4_paintFewest 30 = .ok (.getfield 10, 3) := by decide +kernel
theorem dX4_paintFewest_33 : decode cX4_paintFewest 33 = .ok (.aload_n 0, 1) := by decide +kernel
theorem dX4_paintFewest_34 : decode cX4_paintFewest 34 = .ok (.getfield 50, 3) := by decide +kernel
theorem dX4_paintFewest_37 : decode cX4_paintFewest 37 = .ok (.iload_n 1, 1) := by decide +kernel
theorem dX4_paintFewest_38 : decode cX4_paintFewest 38 = .ok (.iload_n 2, 1) := by decide +kernel
theorem dX4_paintFewest_39 : decode cX4_paintFewest 39 = .ok (.iconst 0, 1) := by decide +kernel
theorem dX4_paintFewest_40 : decode cX4_paintFewest 40 = .ok (.invokestatic 292, 3) := by decide +kernel
theorem dX4_paintFewest_43 : decode cX4_paintFewest 43 = .ok (.ifCond .eq 5, 3) := by decide +kernel
theorem dX4_paintFewest_46 : decode cX4_paintFewest 46 = .ok (.iload_n 2, 1) := by decide +kernel
theorem dX4_paintFewest_47 : decode cX4_paintFewest 47 = .ok (.ireturn, 1) := by decide +kernel
theorem dX4_paintFewest_48 : decode cX4_paintFewest 48 = .ok (.iinc 2 1, 3) := by decide +kernel
theorem dX4_paintFewest_51 : decode cX4_paintFewest 51 = .ok (.goto (-49), 3) := by decide +kernel
theorem dX4_paintFewest_54 : decode cX4_paintFewest 54 = .ok (.iconst (-1), 1) := by decide +kernel
theorem dX4_paintFewest_55 : decode cX4_paintFewest 55 = .ok (.ireturn, 1) := by decide +kernel
theorem dX4_paintFrom_0 : decode cX4_paintFrom 0 = .ok (.iload 4, 2) := by decide +kernel
theorem dX4_paintFrom_2 : decode cX4_paintFrom 2 = .ok (.aload_n 0, 1) := by decide +kernel
theorem dX4_paintFrom_3 : decode cX4_paintFrom 3 = .ok (.getfield 92, 3) := by decide +kernel
theorem dX4_paintFrom_6 : decode cX4_paintFrom 6 = .ok (.if_icmp .lt 5, 3) := by decide +kernel
theorem dX4_paintFrom_9 : decode cX4_paintFrom 9 = .ok (.iconst 1, 1) := by decide +kernel
theorem dX4_paintFrom_10 : decode cX4_paintFrom 10 = .ok (.ireturn, 1) := by decide +kernel
theorem dX4_paintFrom_11 : decode cX4_paintFrom 11 = .ok (.iconst 1, 1) := by decide +kernel
theorem dX4_paintFrom_12 : decode cX4_paintFrom 12 = .ok (.iload 4, 2) := by decide +kernel
theorem dX4_paintFrom_14 : decode cX4_paintFrom 14 = .ok (.ishl, 1) := by decide +kernel
theorem dX4_paintFrom_15 : decode cX4_paintFrom 15 = .ok (.istore 5, 2) := by decide +kernel
theorem dX4_paintFrom_17 : decode cX4_paintFrom 17 = .ok (.iload_n 2, 1) := by decide +kernel
theorem dX4_paintFrom_18 : decode cX4_paintFrom 18 = .ok (.iload 5, 2) := by decide +kernel
theorem dX4_paintFrom_20 : decode cX4_paintFrom 20 = .ok (.iand, 1) := by decide +kernel
theorem dX4_paintFrom_21 : decode cX4_paintFrom 21 = .ok (.ifCond .ne 15, 3) := by decide +kernel
theorem dX4_paintFrom_24 : decode cX4_paintFrom 24 = .ok (.aload_n 0, 1) := by decide +kernel
theorem dX4_paintFrom_25 : decode cX4_paintFrom 25 = .ok (.aload_n 1, 1) := by decide +kernel
theorem dX4_paintFrom_26 : decode cX4_paintFrom 26 = .ok (.iload_n 2, 1) := by decide +kernel
theorem dX4_paintFrom_27 : decode cX4_paintFrom 27 = .ok (.iload_n 3, 1) := by decide +kernel
theorem dX4_paintFrom_28 : decode cX4_paintFrom 28 = .ok (.iload 4, 2) := by decide +kernel
theorem dX4_paintFrom_30 : decode cX4_paintFrom 30 = .ok (.iconst 1, 1) := by decide +kernel
theorem dX4_paintFrom_31 : decode cX4_paintFrom 31 = .ok (.iadd, 1) := by decide +kernel
theorem dX4_paintFrom_32 : decode cX4_paintFrom 32 = .ok (.invokestatic 292, 3) := by decide +kernel
theorem dX4_paintFrom_35 : decode cX4_paintFrom 35 = .ok (.ireturn, 1) := by decide +kernel
theorem dX4_paintFrom_36 : decode cX4_paintFrom 36 = .ok (.iconst 0, 1) := by decide +kernel
theorem dX4_paintFrom_37 : decode cX4_paintFrom 37 = .ok (.istore 6, 2) := by decide +kernel
theorem dX4_paintFrom_39 : decode cX4_paintFrom 39 = .ok (.iload 6, 2) := by decide +kernel
theorem dX4_paintFrom_41 : decode cX4_paintFrom 41 = .ok (.iload_n 3, 1) := by decide +kernel
theorem dX4_paintFrom_42 : decode cX4_paintFrom 42 = .ok (.if_icmp .ge 78, 3) := by decide +kernel
theorem dX4_paintFrom_45 : decode cX4_paintFrom 45 = .ok (.aload_n 1, 1) := by decide +kernel
theorem dX4_paintFrom_46 : decode cX4_paintFrom 46 = .ok (.iload 6, 2) := by decide +kernel
theorem dX4_paintFrom_48 : decode cX4_paintFrom 48 = .ok (.iaload, 1) := by decide +kernel
theorem dX4_paintFrom_49 : decode cX4_paintFrom 49 = .ok (.ifCond .ne 7, 3) := by decide +kernel
theorem dX4_paintFrom_52 : decode cX4_paintFrom 52 = .ok (.iconst 1, 1) := by decide +kernel
theorem dX4_paintFrom_53 : decode cX4_paintFrom 53 = .ok (.goto 4, 3) := by decide +kernel
theorem dX4_paintFrom_56 : decode cX4_paintFrom 56 = .ok (.iconst 0, 1) := by decide +kernel
theorem dX4_paintFrom_57 : decode cX4_paintFrom 57 = .ok (.istore 7, 2) := by decide +kernel
theorem dX4_paintFrom_59 : decode cX4_paintFrom 59 = .ok (.aload_n 1, 1) := by decide +kernel
theorem dX4_paintFrom_60 : decode cX4_paintFrom 60 = .ok (.iload 6, 2) := by decide +kernel
theorem dX4_paintFrom_62 : decode cX4_paintFrom 62 = .ok (.iaload, 1) := by decide +kernel
theorem dX4_paintFrom_63 : decode cX4_paintFrom 63 = .ok (.aload_n 0, 1) := by decide +kernel
theorem dX4_paintFrom_64 : decode cX4_paintFrom 64 = .ok (.iload 4, 2) := by decide +kernel
theorem dX4_paintFrom_66 : decode cX4_paintFrom 66 = .ok (.invokevirtual 113, 3) := by decide +kernel
theorem dX4_paintFrom_69 : decode cX4_paintFrom 69 = .ok (.iand, 1) := by decide +kernel
theorem dX4_paintFrom_70 : decode cX4_paintFrom 70 = .ok (.ifCond .ne 37, 3) := by decide +kernel
theorem dX4_paintFrom_73 : decode cX4_paintFrom 73 = .ok (.aload_n 1, 1) := by decide +kernel
theorem dX4_paintFrom_74 : decode cX4_paintFrom 74 = .ok (.iload 6, 2) := by decide +kernel
theorem dX4_paintFrom_76 : decode cX4_paintFrom 76 = .ok (.dup2, 1) := by decide +kernel
theorem dX4_paintFrom_77 : decode cX4_paintFrom 77 = .ok (.iaload, 1) := by decide +kernel
theorem dX4_paintFrom_78 : decode cX4_paintFrom 78 = .ok (.iload 5, 2) := by decide +kernel
theorem dX4_paintFrom_80 : decode cX4_paintFrom 80 = .ok (.ior, 1) := by decide +kernel
theorem dX4_paintFrom_81 : decode cX4_paintFrom 81 = .ok (.iastore, 1) := by decide +kernel
theorem dX4_paintFrom_82 : decode cX4_paintFrom 82 = .ok (.aload_n 0, 1) := by decide +kernel
theorem dX4_paintFrom_83 : decode cX4_paintFrom 83 = .ok (.aload_n 1, 1) := by decide +kernel
theorem dX4_paintFrom_84 : decode cX4_paintFrom 84 = .ok (.iload_n 2, 1) := by decide +kernel
theorem dX4_paintFrom_85 : decode cX4_paintFrom 85 = .ok (.iload_n 3, 1) := by decide +kernel
theorem dX4_paintFrom_86 : decode cX4_paintFrom 86 = .ok (.iload 4, 2) := by decide +kernel
theorem dX4_paintFrom_88 : decode cX4_paintFrom 88 = .ok (.iconst 1, 1) := by decide +kernel
theorem dX4_paintFrom_89 : decode cX4_paintFrom 89 = .ok (.iadd, 1) := by decide +kernel
theorem dX4_paintFrom_90 : decode cX4_paintFrom 90 = .ok (.invokestatic 292, 3) := by decide +kernel
theorem dX4_paintFrom_93 : decode cX4_paintFrom 93 = .ok (.ifCond .eq 5, 3) := by decide +kernel
theorem dX4_paintFrom_96 : decode cX4_paintFrom 96 = .ok (.iconst 1, 1) := by decide +kernel
theorem dX4_paintFrom_97 : decode cX4_paintFrom 97 = .ok (.ireturn, 1) := by decide +kernel
theorem dX4_paintFrom_98 : decode cX4_paintFrom 98 = .ok (.aload_n 1, 1) := by decide +kernel
theorem dX4_paintFrom_99 : decode cX4_paintFrom 99 = .ok (.iload 6, 2) := by decide +kernel
theorem dX4_paintFrom_101 : decode cX4_paintFrom 101 = .ok (.dup2, 1) := by decide +kernel
theorem dX4_paintFrom_102 : decode cX4_paintFrom 102 = .ok (.iaload, 1) := by decide +kernel
theorem dX4_paintFrom_103 : decode cX4_paintFrom 103 = .ok (.iload 5, 2) := by decide +kernel
theorem dX4_paintFrom_105 : decode cX4_paintFrom 105 = .ok (.ixor, 1) := by decide +kernel
theorem dX4_paintFrom_106 : decode cX4_paintFrom 106 = .ok (.iastore, 1) := by decide +kernel
theorem dX4_paintFrom_107 : decode cX4_paintFrom 107 = .ok (.iload 7, 2) := by decide +kernel
theorem dX4_paintFrom_109 : decode cX4_paintFrom 109 = .ok (.ifCond .eq 5, 3) := by decide +kernel
theorem dX4_paintFrom_112 : decode cX4_paintFrom 112 = .ok (.iconst 0, 1) := by decide +kernel
theorem dX4_paintFrom_113 : decode cX4_paintFrom 113 = .ok (.ireturn, 1) := by decide +kernel
theorem dX4_paintFrom_114 : decode cX4_paintFrom 114 = .ok (.iinc 6 1, 3) := by decide +kernel
theorem dX4_paintFrom_117 : decode cX4_paintFrom 117 = .ok (.goto (-78), 3) := by decide +kernel
theorem dX4_paintFrom_120 : decode cX4_paintFrom 120 = .ok (.iconst 0, 1) := by decide +kernel
theorem dX4_paintFrom_121 : decode cX4_paintFrom 121 = .ok (.ireturn, 1) := by decide +kernel
theorem dX4_nextSeed_0 : decode cX4_nextSeed 0 = .ok (.iload_n 0, 1) := by decide +kernel
theorem dX4_nextSeed_1 : decode cX4_nextSeed 1 = .ok (.ldc_w 296, 3) := by decide +kernel
theorem dX4_nextSeed_4 : decode cX4_nextSeed 4 = .ok (.imul, 1) := by decide +kernel
theorem dX4_nextSeed_5 : decode cX4_nextSeed 5 = .ok (.sipush 12345, 3) := by decide +kernel
theorem dX4_nextSeed_8 : decode cX4_nextSeed 8 = .ok (.iadd, 1) := by decide +kernel
theorem dX4_nextSeed_9 : decode cX4_nextSeed 9 = .ok (.ireturn, 1) := by decide +kernel
theorem dX4_draw_0 : decode cX4_draw 0 = .ok (.iload_n 1, 1) := by decide +kernel
theorem dX4_draw_1 : decode cX4_draw 1 = .ok (.ifCond .le 12, 3) := by decide +kernel
theorem dX4_draw_4 : decode cX4_draw 4 = .ok (.iload_n 0, 1) := by decide +kernel
theorem dX4_draw_5 : decode cX4_draw 5 = .ok (.bipush 8, 2) := by decide +kernel
theorem dX4_draw_7 : decode cX4_draw 7 = .ok (.iushr, 1) := by decide +kernel
theorem dX4_draw_8 : decode cX4_draw 8 = .ok (.iload_n 1, 1) := by decide +kernel
theorem dX4_draw_9 : decode cX4_draw 9 = .ok (.irem, 1) := by decide +kernel
theorem dX4_draw_10 : decode cX4_draw 10 = .ok (.goto 4, 3) := by decide +kernel
theorem dX4_draw_13 : decode cX4_draw 13 = .ok (.iconst 0, 1) := by decide +kernel
theorem dX4_draw_14 : decode cX4_draw 14 = .ok (.ireturn, 1) := by decide +kernel
theorem dX4_doDeed_0 : decode cX4_doDeed 0 = .ok (.iload_n 1, 1) := by decide +kernel
theorem dX4_doDeed_1 : decode cX4_doDeed 1 = .ok (.invokestatic 297, 3) := by decide +kernel
theorem dX4_doDeed_4 : decode cX4_doDeed 4 = .ok (.istore_n 2, 1) := by decide +kernel
theorem dX4_doDeed_5 : decode cX4_doDeed 5 = .ok (.iload_n 2, 1) := by decide +kernel
theorem dX4_doDeed_6 : decode cX4_doDeed 6 = .ok (.iconst 3, 1) := by decide +kernel
theorem dX4_doDeed_7 : decode cX4_doDeed 7 = .ok (.invokestatic 300, 3) := by decide +kernel
theorem dX4_doDeed_10 : decode cX4_doDeed 10 = .ok (.istore_n 3, 1) := by decide +kernel
theorem dX4_doDeed_11 : decode cX4_doDeed 11 = .ok (.iload_n 2, 1) := by decide +kernel
theorem dX4_doDeed_12 : decode cX4_doDeed 12 = .ok (.invokestatic 297, 3) := by decide +kernel
theorem dX4_doDeed_15 : decode cX4_doDeed 15 = .ok (.istore_n 2, 1) := by decide +kernel
theorem dX4_doDeed_16 : decode cX4_doDeed 16 = .ok (.iload_n 3, 1) := by decide +kernel
theorem dX4_doDeed_17 : decode cX4_doDeed 17 = .ok (.ifCond .ne 54, 3) := by decide +kernel
theorem dX4_doDeed_20 : decode cX4_doDeed 20 = .ok (.iload_n 2, 1) := by decide +kernel
theorem dX4_doDeed_21 : decode cX4_doDeed 21 = .ok (.aload_n 0, 1) := by decide +kernel
theorem dX4_doDeed_22 : decode cX4_doDeed 22 = .ok (.getfield 10, 3) := by decide +kernel
theorem dX4_doDeed_25 : decode cX4_doDeed 25 = .ok (.getfield 92, 3) := by decide +kernel
theorem dX4_doDeed_28 : decode cX4_doDeed 28 = .ok (.invokestatic 300, 3) := by decide +kernel
theorem dX4_doDeed_31 : decode cX4_doDeed 31 = .ok (.istore 4, 2) := by decide +kernel
theorem dX4_doDeed_33 : decode cX4_doDeed 33 = .ok (.iload_n 2, 1) := by decide +kernel
theorem dX4_doDeed_34 : decode cX4_doDeed 34 = .ok (.invokestatic 297, 3) := by decide +kernel
theorem dX4_doDeed_37 : decode cX4_doDeed 37 = .ok (.istore_n 2, 1) := by decide +kernel
theorem dX4_doDeed_38 : decode cX4_doDeed 38 = .ok (.iload_n 2, 1) := by decide +kernel
theorem dX4_doDeed_39 : decode cX4_doDeed 39 = .ok (.aload_n 0, 1) := by decide +kernel
theorem dX4_doDeed_40 : decode cX4_doDeed 40 = .ok (.getfield 10, 3) := by decide +kernel
theorem dX4_doDeed_43 : decode cX4_doDeed 43 = .ok (.getfield 92, 3) := by decide +kernel
theorem dX4_doDeed_46 : decode cX4_doDeed 46 = .ok (.invokestatic 300, 3) := by decide +kernel
theorem dX4_doDeed_49 : decode cX4_doDeed 49 = .ok (.istore 5, 2) := by decide +kernel
theorem dX4_doDeed_51 : decode cX4_doDeed 51 = .ok (.iload 4, 2) := by decide +kernel
theorem dX4_doDeed_53 : decode cX4_doDeed 53 = .ok (.iload 5, 2) := by decide +kernel
theorem dX4_doDeed_55 : decode cX4_doDeed 55 = .ok (.if_icmp .eq 14, 3) := by decide +kernel
theorem dX4_doDeed_58 : decode cX4_doDeed 58 = .ok (.aload_n 0, 1) := by decide +kernel
theorem dX4_doDeed_59 : decode cX4_doDeed 59 = .ok (.getfield 10, 3) := by decide +kernel
theorem dX4_doDeed_62 : decode cX4_doDeed 62 = .ok (.iload 4, 2) := by decide +kernel
theorem dX4_doDeed_64 : decode cX4_doDeed 64 = .ok (.iload 5, 2) := by decide +kernel
theorem dX4_doDeed_66 : decode cX4_doDeed 66 = .ok (.invokevirtual 212, 3) := by decide +kernel
theorem dX4_doDeed_69 : decode cX4_doDeed 69 = .ok (.iload_n 2, 1) := by decide +kernel
theorem dX4_doDeed_70 : decode cX4_doDeed 70 = .ok (.ireturn, 1) := by decide +kernel
theorem dX4_doDeed_71 : decode cX4_doDeed 71 = .ok (.iload_n 2, 1) := by decide +kernel
theorem dX4_doDeed_72 : decode cX4_doDeed 72 = .ok (.aload_n 0, 1) := by decide +kernel
theorem dX4_doDeed_73 : decode cX4_doDeed 73 = .ok (.getfield 10, 3) := by decide +kernel
theorem dX4_doDeed_76 : decode cX4_doDeed 76 = .ok (.invokevirtual 132, 3) := by decide +kernel
theorem dX4_doDeed_79 : decode cX4_doDeed 79 = .ok (.invokestatic 300, 3) := by decide +kernel
theorem dX4_doDeed_82 : decode cX4_doDeed 82 = .ok (.istore 4, 2) := by decide +kernel
theorem dX4_doDeed_84 : decode cX4_doDeed 84 = .ok (.iload_n 3, 1) := by decide +kernel
theorem dX4_doDeed_85 : decode cX4_doDeed 85 = .ok (.iconst 2, 1) := by decide +kernel
theorem dX4_doDeed_86 : decode cX4_doDeed 86 = .ok (.if_icmp .ne 18, 3) := by decide +kernel
theorem dX4_doDeed_89 : decode cX4_doDeed 89 = .ok (.aload_n 0, 1) := by decide +kernel
theorem dX4_doDeed_90 : decode cX4_doDeed 90 = .ok (.getfield 10, 3) := by decide +kernel
theorem dX4_doDeed_93 : decode cX4_doDeed 93 = .ok (.getfield 106, 3) := by decide +kernel
theorem dX4_doDeed_96 : decode cX4_doDeed 96 = .ok (.iconst 4, 1) := by decide +kernel
theorem dX4_doDeed_97 : decode cX4_doDeed 97 = .ok (.aaload, 1) := by decide +kernel
theorem dX4_doDeed_98 : decode cX4_doDeed 98 = .ok (.iload 4, 2) := by decide +kernel
theorem dX4_doDeed_100 : decode cX4_doDeed 100 = .ok (.iconst 0, 1) := by decide +kernel
theorem dX4_doDeed_101 : decode cX4_doDeed 101 = .ok (.iastore, 1) := by decide +kernel
theorem dX4_doDeed_102 : decode cX4_doDeed 102 = .ok (.iload_n 2, 1) := by decide +kernel
theorem dX4_doDeed_103 : decode cX4_doDeed 103 = .ok (.ireturn, 1) := by decide +kernel
theorem dX4_doDeed_104 : decode cX4_doDeed 104 = .ok (.iload_n 2, 1) := by decide +kernel
theorem dX4_doDeed_105 : decode cX4_doDeed 105 = .ok (.invokestatic 297, 3) := by decide +kernel
theorem dX4_doDeed_108 : decode cX4_doDeed 108 = .ok (.istore_n 2, 1) := by decide +kernel
theorem dX4_doDeed_109 : decode cX4_doDeed 109 = .ok (.aload_n 0, 1) := by decide +kernel
theorem dX4_doDeed_110 : decode cX4_doDeed 110 = .ok (.getfield 10, 3) := by decide +kernel
theorem dX4_doDeed_113 : decode cX4_doDeed 113 = .ok (.getfield 106, 3) := by decide +kernel
theorem dX4_doDeed_116 : decode cX4_doDeed 116 = .ok (.iconst 4, 1) := by decide +kernel
theorem dX4_doDeed_117 : decode cX4_doDeed 117 = .ok (.aaload, 1) := by decide +kernel
theorem dX4_doDeed_118 : decode cX4_doDeed 118 = .ok (.iload 4, 2) := by decide +kernel
theorem dX4_doDeed_120 : decode cX4_doDeed 120 = .ok (.iload_n 2, 1) := by decide +kernel
theorem dX4_doDeed_121 : decode cX4_doDeed 121 = .ok (.bipush 100, 2) := by decide +kernel
theorem dX4_doDeed_123 : decode cX4_doDeed 123 = .ok (.invokestatic 300, 3) := by decide +kernel
theorem dX4_doDeed_126 : decode cX4_doDeed 126 = .ok (.iconst 1, 1) := by decide +kernel
theorem dX4_doDeed_127 : decode cX4_doDeed 127 = .ok (.iadd, 1) := by decide +kernel
theorem dX4_doDeed_128 : decode cX4_doDeed 128 = .ok (.iastore, 1) := by decide +kernel
theorem dX4_doDeed_129 : decode cX4_doDeed 129 = .ok (.iload_n 2, 1) := by decide +kernel
theorem dX4_doDeed_130 : decode cX4_doDeed 130 = .ok (.ireturn, 1) := by decide +kernel
theorem dX5_thrown_0 : decode cX5_thrown 0 = .ok (.aload_n 0, 1) := by decide +kernel
theorem dX5_thrown_1 : decode cX5_thrown 1 = .ok (.getfield 1, 3) := by decide +kernel
theorem dX5_thrown_4 : decode cX5_thrown 4 = .ok (.ireturn, 1) := by decide +kernel
theorem dX5_refuse_0 : decode cX5_refuse 0 = .ok (.aload_n 0, 1) := by decide +kernel
theorem dX5_refuse_1 : decode cX5_refuse 1 = .ok (.iconst 1, 1) := by decide +kernel
theorem dX5_refuse_2 : decode cX5_refuse 2 = .ok (.putfield 1, 3) := by decide +kernel
theorem dX5_refuse_5 : decode cX5_refuse 5 = .ok (.iconst 0, 1) := by decide +kernel
theorem dX5_refuse_6 : decode cX5_refuse 6 = .ok (.ireturn, 1) := by decide +kernel
theorem dX5_isIn_0 : decode cX5_isIn 0 = .ok (.iload_n 0, 1) := by decide +kernel
theorem dX5_isIn_1 : decode cX5_isIn 1 = .ok (.iload_n 1, 1) := by decide +kernel
theorem dX5_isIn_2 : decode cX5_isIn 2 = .ok (.if_icmp .lt 12, 3) := by decide +kernel
theorem dX5_isIn_5 : decode cX5_isIn 5 = .ok (.iload_n 0, 1) := by decide +kernel
theorem dX5_isIn_6 : decode cX5_isIn 6 = .ok (.iload_n 2, 1) := by decide +kernel
theorem dX5_isIn_7 : decode cX5_isIn 7 = .ok (.if_icmp .gt 7, 3) := by decide +kernel
theorem dX5_isIn_10 : decode cX5_isIn 10 = .ok (.iconst 1, 1) := by decide +kernel
theorem dX5_isIn_11 : decode cX5_isIn 11 = .ok (.goto 4, 3) := by decide +kernel
theorem dX5_isIn_14 : decode cX5_isIn 14 = .ok (.iconst 0, 1) := by decide +kernel
theorem dX5_isIn_15 : decode cX5_isIn 15 = .ok (.ireturn, 1) := by decide +kernel
theorem dX5_has_0 : decode cX5_has 0 = .ok (.iload_n 0, 1) := by decide +kernel
theorem dX5_has_1 : decode cX5_has 1 = .ok (.iload_n 1, 1) := by decide +kernel
theorem dX5_has_2 : decode cX5_has 2 = .ok (.ishr, 1) := by decide +kernel
theorem dX5_has_3 : decode cX5_has 3 = .ok (.iconst 1, 1) := by decide +kernel
theorem dX5_has_4 : decode cX5_has 4 = .ok (.iand, 1) := by decide +kernel
theorem dX5_has_5 : decode cX5_has 5 = .ok (.iconst 1, 1) := by decide +kernel
theorem dX5_has_6 : decode cX5_has 6 = .ok (.if_icmp .ne 7, 3) := by decide +kernel
theorem dX5_has_9 : decode cX5_has 9 = .ok (.iconst 1, 1) := by decide +kernel
theorem dX5_has_10 : decode cX5_has 10 = .ok (.goto 4, 3) := by decide +kernel
theorem dX5_has_13 : decode cX5_has 13 = .ok (.iconst 0, 1) := by decide +kernel
theorem dX5_has_14 : decode cX5_has 14 = .ok (.ireturn, 1) := by decide +kernel
theorem dX5_bits_0 : decode cX5_bits 0 = .ok (.iconst 0, 1) := by decide +kernel
theorem dX5_bits_1 : decode cX5_bits 1 = .ok (.istore_n 1, 1) := by decide +kernel
theorem dX5_bits_2 : decode cX5_bits 2 = .ok (.iload_n 0, 1) := by decide +kernel
theorem dX5_bits_3 : decode cX5_bits 3 = .ok (.istore_n 2, 1) := by decide +kernel
theorem dX5_bits_4 : decode cX5_bits 4 = .ok (.iload_n 2, 1) := by decide +kernel
theorem dX5_bits_5 : decode cX5_bits 5 = .ok (.ifCond .eq 15, 3) := by decide +kernel
theorem dX5_bits_8 : decode cX5_bits 8 = .ok (.iinc 1 1, 3) := by decide +kernel
theorem dX5_bits_11 : decode cX5_bits 11 = .ok (.iload_n 2, 1) := by decide +kernel
theorem dX5_bits_12 : decode cX5_bits 12 = .ok (.iload_n 2, 1) := by decide +kernel
theorem dX5_bits_13 : decode cX5_bits 13 = .ok (.iconst 1, 1) := by decide +kernel
theorem dX5_bits_14 : decode cX5_bits 14 = .ok (.isub, 1) := by decide +kernel
theorem dX5_bits_15 : decode cX5_bits 15 = .ok (.iand, 1) := by decide +kernel
theorem dX5_bits_16 : decode cX5_bits 16 = .ok (.istore_n 2, 1) := by decide +kernel
theorem dX5_bits_17 : decode cX5_bits 17 = .ok (.goto (-13), 3) := by decide +kernel
theorem dX5_bits_20 : decode cX5_bits 20 = .ok (.iload_n 1, 1) := by decide +kernel
theorem dX5_bits_21 : decode cX5_bits 21 = .ok (.ireturn, 1) := by decide +kernel
theorem dX5_lays_0 : decode cX5_lays 0 = .ok (.bipush 24, 2) := by decide +kernel
theorem dX5_lays_2 : decode cX5_lays 2 = .ok (.istore_n 2, 1) := by decide +kernel
theorem dX5_lays_3 : decode cX5_lays 3 = .ok (.iload_n 2, 1) := by decide +kernel
theorem dX5_lays_4 : decode cX5_lays 4 = .ok (.ifCond .lt 35, 3) := by decide +kernel
theorem dX5_lays_7 : decode cX5_lays 7 = .ok (.aload_n 0, 1) := by decide +kernel
theorem dX5_lays_8 : decode cX5_lays 8 = .ok (.getfield 7, 3) := by decide +kernel
theorem dX5_lays_11 : decode cX5_lays 11 = .ok (.aload_n 0, 1) := by decide +kernel
theorem dX5_lays_12 : decode cX5_lays 12 = .ok (.getfield 11, 3) := by decide +kernel
theorem dX5_lays_15 : decode cX5_lays 15 = .ok (.iload_n 1, 1) := by decide +kernel
theorem dX5_lays_16 : decode cX5_lays 16 = .ok (.iload_n 2, 1) := by decide +kernel
theorem dX5_lays_17 : decode cX5_lays 17 = .ok (.iushr, 1) := by decide +kernel
theorem dX5_lays_18 : decode cX5_lays 18 = .ok (.sipush 255, 3) := by decide +kernel
theorem dX5_lays_21 : decode cX5_lays 21 = .ok (.iand, 1) := by decide +kernel
theorem dX5_lays_22 : decode cX5_lays 22 = .ok (.iastore, 1) := by decide +kernel
theorem dX5_lays_23 : decode cX5_lays 23 = .ok (.aload_n 0, 1) := by decide +kernel
theorem dX5_lays_24 : decode cX5_lays 24 = .ok (.dup, 1) := by decide +kernel
theorem dX5_lays_25 : decode cX5_lays 25 = .ok (.getfield 11, 3) := by decide +kernel
theorem dX5_lays_28 : decode cX5_lays 28 = .ok (.iconst 1, 1) := by decide +kernel
theorem dX5_lays_29 : decode cX5_lays 29 = .ok (.iadd, 1) := by decide +kernel
theorem dX5_lays_30 : decode cX5_lays 30 = .ok (.putfield 11, 3) := by decide +kernel
theorem dX5_lays_33 : decode cX5_lays 33 = .ok (.iinc 2 (-8), 3) := by decide +kernel
theorem dX5_lays_36 : decode cX5_lays 36 = .ok (.goto (-33), 3) := by decide +kernel
theorem dX5_lays_39 : decode cX5_lays 39 = .ok (.return_, 1) := by decide +kernel
theorem dX5_feed_0 : decode cX5_feed 0 = .ok (.aload_n 0, 1) := by decide +kernel
theorem dX5_feed_1 : decode cX5_feed 1 = .ok (.iconst 0, 1) := by decide +kernel
theorem dX5_feed_2 : decode cX5_feed 2 = .ok (.putfield 1, 3) := by decide +kernel
theorem dX5_feed_5 : decode cX5_feed 5 = .ok (.aload_n 0, 1) := by decide +kernel
theorem dX5_feed_6 : decode cX5_feed 6 = .ok (.getfield 11, 3) := by decide +kernel
theorem dX5_feed_9 : decode cX5_feed 9 = .ok (.bipush 20, 2) := by decide +kernel
theorem dX5_feed_11 : decode cX5_feed 11 = .ok (.iadd, 1) := by decide +kernel
theorem dX5_feed_12 : decode cX5_feed 12 = .ok (.sipush 540, 3) := by decide +kernel
theorem dX5_feed_15 : decode cX5_feed 15 = .ok (.if_icmp .le 5, 3) := by decide +kernel
theorem dX5_feed_18 : decode cX5_feed 18 = .ok (.iconst (-1), 1) := by decide +kernel
theorem dX5_feed_19 : decode cX5_feed 19 = .ok (.ireturn, 1) := by decide +kernel
theorem dX5_feed_20 : decode cX5_feed 20 = .ok (.aload_n 0, 1) := by decide +kernel
theorem dX5_feed_21 : decode cX5_feed 21 = .ok (.iload_n 1, 1) := by decide +kernel
theorem dX5_feed_22 : decode cX5_feed 22 = .ok (.invokevirtual 14, 3) := by decide +kernel
theorem dX5_feed_25 : decode cX5_feed 25 = .ok (.aload_n 0, 1) := by decide +kernel
theorem dX5_feed_26 : decode cX5_feed 26 = .ok (.iload_n 2, 1) := by decide +kernel
theorem dX5_feed_27 : decode cX5_feed 27 = .ok (.invokevirtual 14, 3) := by decide +kernel
theorem dX5_feed_30 : decode cX5_feed 30 = .ok (.aload_n 0, 1) := by decide +kernel
theorem dX5_feed_31 : decode cX5_feed 31 = .ok (.iload_n 3, 1) := by decide +kernel
theorem dX5_feed_32 : decode cX5_feed 32 = .ok (.invokevirtual 14, 3) := by decide +kernel
theorem dX5_feed_35 : decode cX5_feed 35 = .ok (.aload_n 0, 1) := by decide +kernel
theorem dX5_feed_36 : decode cX5_feed 36 = .ok (.iload 4, 2) := by decide +kernel
theorem dX5_feed_38 : decode cX5_feed 38 = .ok (.invokevirtual 14, 3) := by decide +kernel
theorem dX5_feed_41 : decode cX5_feed 41 = .ok (.aload_n 0, 1) := by decide +kernel
theorem dX5_feed_42 : decode cX5_feed 42 = .ok (.iload 5, 2) := by decide +kernel
theorem dX5_feed_44 : decode cX5_feed 44 = .ok (.invokevirtual 14, 3) := by decide +kernel
theorem dX5_feed_47 : decode cX5_feed 47 = .ok (.aload_n 0, 1) := by decide +kernel
theorem dX5_feed_48 : decode cX5_feed 48 = .ok (.getfield 11, 3) := by decide +kernel
theorem dX5_feed_51 : decode cX5_feed 51 = .ok (.ireturn, 1) := by decide +kernel
theorem dX5_end_0 : decode cX5_end 0 = .ok (.aload_n 0, 1) := by decide +kernel
theorem dX5_end_1 : decode cX5_end 1 = .ok (.iconst 0, 1) := by decide +kernel
theorem dX5_end_2 : decode cX5_end 2 = .ok (.putfield 1, 3) := by decide +kernel
theorem dX5_end_5 : decode cX5_end 5 = .ok (.iload_n 1, 1) := by decide +kernel
theorem dX5_end_6 : decode cX5_end 6 = .ok (.ifCond .lt 11, 3) := by decide +kernel
theorem dX5_end_9 : decode cX5_end 9 = .ok (.iload_n 1, 1) := by decide +kernel
theorem dX5_end_10 : decode cX5_end 10 = .ok (.aload_n 0, 1) := by decide +kernel
theorem dX5_end_11 : decode cX5_end 11 = .ok (.getfield 11, 3) := by decide +kernel
theorem dX5_end_14 : decode cX5_end 14 = .ok (.if_icmp .le 5, 3) := by decide +kernel
theorem dX5_end_17 : decode cX5_end 17 = .ok (.iconst 0, 1) := by decide +kernel
theorem dX5_end_18 : decode cX5_end 18 = .ok (.ireturn, 1) := by decide +kernel
theorem dX5_end_19 : decode cX5_end 19 = .ok (.aload_n 0, 1) := by decide +kernel
theorem dX5_end_20 : decode cX5_end 20 = .ok (.iload_n 1, 1) := by decide +kernel
theorem dX5_end_21 : decode cX5_end 21 = .ok (.putfield 11, 3) := by decide +kernel
theorem dX5_end_24 : decode cX5_end 24 = .ok (.iconst 1, 1) := by decide +kernel
theorem dX5_end_25 : decode cX5_end 25 = .ok (.ireturn, 1) := by decide +kernel
theorem dX5_tapeAt_0 : decode cX5_tapeAt 0 = .ok (.iload_n 1, 1) := by decide +kernel
theorem dX5_tapeAt_1 : decode cX5_tapeAt 1 = .ok (.aload_n 0, 1) := by decide +kernel
theorem dX5_tapeAt_2 : decode cX5_tapeAt 2 = .ok (.getfield 18, 3) := by decide +kernel
theorem dX5_tapeAt_5 : decode cX5_tapeAt 5 = .ok (.if_icmp .ge 12, 3) := by decide +kernel
theorem dX5_tapeAt_8 : decode cX5_tapeAt 8 = .ok (.aload_n 0, 1) := by decide +kernel
theorem dX5_tapeAt_9 : decode cX5_tapeAt 9 = .ok (.getfield 7, 3) := by decide +kernel
theorem dX5_tapeAt_12 : decode cX5_tapeAt 12 = .ok (.iload_n 1, 1) := by decide +kernel
theorem dX5_tapeAt_13 : decode cX5_tapeAt 13 = .ok (.iaload, 1) := by decide +kernel
theorem dX5_tapeAt_14 : decode cX5_tapeAt 14 = .ok (.goto 4, 3) := by decide +kernel
theorem dX5_tapeAt_17 : decode cX5_tapeAt 17 = .ok (.iconst 0, 1) := by decide +kernel
theorem dX5_tapeAt_18 : decode cX5_tapeAt 18 = .ok (.ireturn, 1) := by decide +kernel
theorem dX5_isDigit_0 : decode cX5_isDigit 0 = .ok (.iload_n 0, 1) := by decide +kernel
theorem dX5_isDigit_1 : decode cX5_isDigit 1 = .ok (.bipush 48, 2) := by decide +kernel
theorem dX5_isDigit_3 : decode cX5_isDigit 3 = .ok (.if_icmp .lt 13, 3) := by decide +kernel
theorem dX5_isDigit_6 : decode cX5_isDigit 6 = .ok (.iload_n 0, 1) := by decide +kernel
theorem dX5_isDigit_7 : decode cX5_isDigit 7 = .ok (.bipush 57, 2) := by decide +kernel
theorem dX5_isDigit_9 : decode cX5_isDigit 9 = .ok (.if_icmp .gt 7, 3) := by decide +kernel
theorem dX5_isDigit_12 : decode cX5_isDigit 12 = .ok (.iconst 1, 1) := by decide +kernel
theorem dX5_isDigit_13 : decode cX5_isDigit 13 = .ok (.goto 4, 3) := by decide +kernel
theorem dX5_isDigit_16 : decode cX5_isDigit 16 = .ok (.iconst 0, 1) := by decide +kernel
theorem dX5_isDigit_17 : decode cX5_isDigit 17 = .ok (.ireturn, 1) := by decide +kernel
theorem dX5_isLetter_0 : decode cX5_isLetter 0 = .ok (.iload_n 0, 1) := by decide +kernel
theorem dX5_isLetter_1 : decode cX5_isLetter 1 = .ok (.bipush 97, 2) := by decide +kernel
theorem dX5_isLetter_3 : decode cX5_isLetter 3 = .ok (.if_icmp .lt 13, 3) := by decide +kernel
theorem dX5_isLetter_6 : decode cX5_isLetter 6 = .ok (.iload_n 0, 1) := by decide +kernel
theorem dX5_isLetter_7 : decode cX5_isLetter 7 = .ok (.bipush 122, 2) := by decide +kernel
theorem dX5_isLetter_9 : decode cX5_isLetter 9 = .ok (.if_icmp .gt 7, 3) := by decide +kernel
theorem dX5_isLetter_12 : decode cX5_isLetter 12 = .ok (.iconst 1, 1) := by decide +kernel
theorem dX5_isLetter_13 : decode cX5_isLetter 13 = .ok (.goto 4, 3) := by decide +kernel
theorem dX5_isLetter_16 : decode cX5_isLetter 16 = .ok (.iconst 0, 1) := by decide +kernel
theorem dX5_isLetter_17 : decode cX5_isLetter 17 = .ok (.ireturn, 1) := by decide +kernel
theorem dX5_next_0 : decode cX5_next 0 = .ok (.aload_n 0, 1) := by decide +kernel
theorem dX5_next_1 : decode cX5_next 1 = .ok (.getfield 21, 3) := by decide +kernel
theorem dX5_next_4 : decode cX5_next 4 = .ok (.aload_n 0, 1) := by decide +kernel
theorem dX5_next_5 : decode cX5_next 5 = .ok (.getfield 18, 3) := by decide +kernel
theorem dX5_next_8 : decode cX5_next 8 = .ok (.if_icmp .ge 44, 3) := by decide +kernel
theorem dX5_next_11 : decode cX5_next 11 = .ok (.aload_n 0, 1) := by decide +kernel
theorem dX5_next_12 : decode cX5_next 12 = .ok (.getfield 7, 3) := by decide +kernel
theorem dX5_next_15 : decode cX5_next 15 = .ok (.aload_n 0, 1) := by decide +kernel
theorem dX5_next_16 : decode cX5_next 16 = .ok (.getfield 21, 3) := by decide +kernel
theorem dX5_next_19 : decode cX5_next 19 = .ok (.iaload, 1) := by decide +kernel
theorem dX5_next_20 : decode cX5_next 20 = .ok (.bipush 32, 2) := by decide +kernel
theorem dX5_next_22 : decode cX5_next 22 = .ok (.if_icmp .eq 17, 3) := by decide +kernel
theorem dX5_next_25 : decode cX5_next 25 = .ok (.aload_n 0, 1) := by decide +kernel
theorem dX5_next_26 : decode cX5_next 26 = .ok (.getfield 7, 3) := by decide +kernel
theorem dX5_next_29 : decode cX5_next 29 = .ok (.aload_n 0, 1) := by decide +kernel
theorem dX5_next_30 : decode cX5_next 30 = .ok (.getfield 21, 3) := by decide +kernel
theorem dX5_next_33 : decode cX5_next 33 = .ok (.iaload, 1) := by decide +kernel
theorem dX5_next_34 : decode cX5_next 34 = .ok (.bipush 10, 2) := by decide +kernel
theorem dX5_next_36 : decode cX5_next 36 = .ok (.if_icmp .ne 16, 3) := by decide +kernel
theorem dX5_next_39 : decode cX5_next 39 = .ok (.aload_n 0, 1) := by decide +kernel
theorem dX5_next_40 : decode cX5_next 40 = .ok (.dup, 1) := by decide +kernel
theorem dX5_next_41 : decode cX5_next 41 = .ok (.getfield 21, 3) := by decide +kernel
theorem dX5_next_44 : decode cX5_next 44 = .ok (.iconst 1, 1) := by decide +kernel
theorem dX5_next_45 : decode cX5_next 45 = .ok (.iadd, 1) := by decide +kernel
theorem dX5_next_46 : decode cX5_next 46 = .ok (.putfield 21, 3) := by decide +kernel
theorem dX5_next_49 : decode cX5_next 49 = .ok (.goto (-49), 3) := by decide +kernel
theorem dX5_next_52 : decode cX5_next 52 = .ok (.aload_n 0, 1) := by decide +kernel
theorem dX5_next_53 : decode cX5_next 53 = .ok (.aload_n 0, 1) := by decide +kernel
theorem dX5_next_54 : decode cX5_next 54 = .ok (.getfield 21, 3) := by decide +kernel
theorem dX5_next_57 : decode cX5_next 57 = .ok (.putfield 24, 3) := by decide +kernel
theorem dX5_next_60 : decode cX5_next 60 = .ok (.aload_n 0, 1) := by decide +kernel
theorem dX5_next_61 : decode cX5_next 61 = .ok (.getfield 18, 3) := by decide +kernel
theorem dX5_next_64 : decode cX5_next 64 = .ok (.sipush 500, 3) := by decide +kernel
theorem dX5_next_67 : decode cX5_next 67 = .ok (.if_icmp .le 26, 3) := by decide +kernel
theorem dX5_next_70 : decode cX5_next 70 = .ok (.aload_n 0, 1) := by decide +kernel
theorem dX5_next_71 : decode cX5_next 71 = .ok (.getfield 24, 3) := by decide +kernel
theorem dX5_next_74 : decode cX5_next 74 = .ok (.sipush 500, 3) := by decide +kernel
theorem dX5_next_77 : decode cX5_next 77 = .ok (.if_icmp .lt 16, 3) := by decide +kernel
theorem dX5_next_80 : decode cX5_next 80 = .ok (.aload_n 0, 1) := by decide +kernel
theorem dX5_next_81 : decode cX5_next 81 = .ok (.sipush 500, 3) := by decide +kernel
theorem dX5_next_84 : decode cX5_next 84 = .ok (.putfield 24, 3) := by decide +kernel
theorem dX5_next_87 : decode cX5_next 87 = .ok (.aload_n 0, 1) := by decide +kernel
theorem dX5_next_88 : decode cX5_next 88 = .ok (.iconst 1, 1) := by decide +kernel
theorem dX5_next_89 : decode cX5_next 89 = .ok (.putfield 27, 3) := by decide +kernel
theorem dX5_next_92 : decode cX5_next 92 = .ok (.return_, 1) := by decide +kernel
theorem dX5_next_93 : decode cX5_next 93 = .ok (.aload_n 0, 1) := by decide +kernel
theorem dX5_next_94 : decode cX5_next 94 = .ok (.getfield 21, 3) := by decide +kernel
theorem dX5_next_97 : decode cX5_next 97 = .ok (.aload_n 0, 1) := by decide +kernel
theorem dX5_next_98 : decode cX5_next 98 = .ok (.getfield 18, 3) := by decide +kernel
theorem dX5_next_101 : decode cX5_next 101 = .ok (.if_icmp .lt 9, 3) := by decide +kernel
theorem dX5_next_104 : decode cX5_next 104 = .ok (.aload_n 0, 1) := by decide +kernel
theorem dX5_next_105 : decode cX5_next 105 = .ok (.iconst 0, 1) := by decide +kernel
theorem dX5_next_106 : decode cX5_next 106 = .ok (.putfield 27, 3) := by decide +kernel
theorem dX5_next_109 : decode cX5_next 109 = .ok (.return_, 1) := by decide +kernel
theorem dX5_next_110 : decode cX5_next 110 = .ok (.aload_n 0, 1) := by decide +kernel
theorem dX5_next_111 : decode cX5_next 111 = .ok (.getfield 7, 3) := by decide +kernel
theorem dX5_next_114 : decode cX5_next 114 = .ok (.aload_n 0, 1) := by decide +kernel
theorem dX5_next_115 : decode cX5_next 115 = .ok (.getfield 21, 3) := by decide +kernel
theorem dX5_next_118 : decode cX5_next 118 = .ok (.iaload, 1) := by decide +kernel
theorem dX5_next_119 : decode cX5_next 119 = .ok (.istore_n 1, 1) := by decide +kernel
theorem dX5_next_120 : decode cX5_next 120 = .ok (.iload_n 1, 1) := by decide +kernel
theorem dX5_next_121 : decode cX5_next 121 = .ok (.invokestatic 30, 3) := by decide +kernel
theorem dX5_next_124 : decode cX5_next 124 = .ok (.ifCond .ne 36, 3) := by decide +kernel
theorem dX5_next_127 : decode cX5_next 127 = .ok (.iload_n 1, 1) := by decide +kernel
theorem dX5_next_128 : decode cX5_next 128 = .ok (.invokestatic 34, 3) := by decide +kernel
theorem dX5_next_131 : decode cX5_next 131 = .ok (.ifCond .ne 29, 3) := by decide +kernel
theorem dX5_next_134 : decode cX5_next 134 = .ok (.aload_n 0, 1) := by decide +kernel
theorem dX5_next_135 : decode cX5_next 135 = .ok (.iload_n 1, 1) := by decide +kernel
theorem dX5_next_136 : decode cX5_next 136 = .ok (.bipush 59, 2) := by decide +kernel
theorem dX5_next_138 : decode cX5_next 138 = .ok (.if_icmp .ne 7, 3) := by decide +kernel
theorem dX5_next_141 : decode cX5_next 141 = .ok (.iconst 4, 1) := by decide +kernel
theorem dX5_next_142 : decode cX5_next 142 = .ok (.goto 4, 3) := by decide +kernel
theorem dX5_next_145 : decode cX5_next 145 = .ok (.iconst 1, 1) := by decide +kernel
theorem dX5_next_146 : decode cX5_next 146 = .ok (.putfield 27, 3) := by decide +kernel
theorem dX5_next_149 : decode cX5_next 149 = .ok (.aload_n 0, 1) := by decide +kernel
theorem dX5_next_150 : decode cX5_next 150 = .ok (.dup, 1) := by decide +kernel
theorem dX5_next_151 : decode cX5_next 151 = .ok (.getfield 21, 3) := by decide +kernel
theorem dX5_next_154 : decode cX5_next 154 = .ok (.iconst 1, 1) := by decide +kernel
theorem dX5_next_155 : decode cX5_next 155 = .ok (.iadd, 1) := by decide +kernel
theorem dX5_next_156 : decode cX5_next 156 = .ok (.putfield 21, 3) := by decide +kernel
theorem dX5_next_159 : decode cX5_next 159 = .ok (.return_, 1) := by decide +kernel
theorem dX5_next_160 : decode cX5_next 160 = .ok (.iload_n 1, 1) := by decide +kernel
theorem dX5_next_161 : decode cX5_next 161 = .ok (.invokestatic 30, 3) := by decide +kernel
theorem dX5_next_164 : decode cX5_next 164 = .ok (.istore_n 2, 1) := by decide +kernel
theorem dX5_next_165 : decode cX5_next 165 = .ok (.iconst 1, 1) := by decide +kernel
theorem dX5_next_166 : decode cX5_next 166 = .ok (.istore_n 3, 1) := by decide +kernel
theorem dX5_next_167 : decode cX5_next 167 = .ok (.aload_n 0, 1) := by decide +kernel
theorem dX5_next_168 : decode cX5_next 168 = .ok (.iconst 0, 1) := by decide +kernel
theorem dX5_next_169 : decode cX5_next 169 = .ok (.putfield 37, 3) := by decide +kernel
theorem dX5_next_172 : decode cX5_next 172 = .ok (.aload_n 0, 1) := by decide +kernel
theorem dX5_next_173 : decode cX5_next 173 = .ok (.aload_n 0, 1) := by decide +kernel
theorem dX5_next_174 : decode cX5_next 174 = .ok (.getfield 21, 3) := by decide +kernel
theorem dX5_next_177 : decode cX5_next 177 = .ok (.invokevirtual 40, 3) := by decide +kernel
theorem dX5_next_180 : decode cX5_next 180 = .ok (.invokestatic 30, 3) := by decide +kernel
theorem dX5_next_183 : decode cX5_next 183 = .ok (.ifCond .ne 17, 3) := by decide +kernel
theorem dX5_next_186 : decode cX5_next 186 = .ok (.aload_n 0, 1) := by decide +kernel
theorem dX5_next_187 : decode cX5_next 187 = .ok (.aload_n 0, 1) := by decide +kernel
theorem dX5_next_188 : decode cX5_next 188 = .ok (.getfield 21, 3) := by decide +kernel
theorem dX5_next_191 : decode cX5_next 191 = .ok (.invokevirtual 40, 3) := by decide +kernel
theorem dX5_next_194 : decode cX5_next 194 = .ok (.invokestatic 34, 3) := by decide +kernel
theorem dX5_next_197 : decode cX5_next 197 = .ok (.ifCond .eq 76, 3) := by decide +kernel
theorem dX5_next_200 : decode cX5_next 200 = .ok (.aload_n 0, 1) := by decide +kernel
theorem dX5_next_201 : decode cX5_next 201 = .ok (.getfield 7, 3) := by decide +kernel
theorem dX5_next_204 : decode cX5_next 204 = .ok (.aload_n 0, 1) := by decide +kernel
theorem dX5_next_205 : decode cX5_next 205 = .ok (.getfield 21, 3) := by decide +kernel
theorem dX5_next_208 : decode cX5_next 208 = .ok (.iaload, 1) := by decide +kernel
theorem dX5_next_209 : decode cX5_next 209 = .ok (.istore 4, 2) := by decide +kernel
theorem dX5_next_211 : decode cX5_next 211 = .ok (.iload_n 3, 1) := by decide +kernel
theorem dX5_next_212 : decode cX5_next 212 = .ok (.ifCond .eq 16, 3) := by decide +kernel
theorem dX5_next_215 : decode cX5_next 215 = .ok (.iload 4, 2) := by decide +kernel
theorem dX5_next_217 : decode cX5_next 217 = .ok (.invokestatic 30, 3) := by decide +kernel
theorem dX5_next_220 : decode cX5_next 220 = .ok (.iload_n 2, 1) := by decide +kernel
theorem dX5_next_221 : decode cX5_next 221 = .ok (.if_icmp .ne 7, 3) := by decide +kernel
theorem dX5_next_224 : decode cX5_next 224 = .ok (.iconst 1, 1) := by decide +kernel
theorem dX5_next_225 : decode cX5_next 225 = .ok (.goto 4, 3) := by decide +kernel
theorem dX5_next_228 : decode cX5_next 228 = .ok (.iconst 0, 1) := by decide +kernel
theorem dX5_next_229 : decode cX5_next 229 = .ok (.istore_n 3, 1) := by decide +kernel
theorem dX5_next_230 : decode cX5_next 230 = .ok (.aload_n 0, 1) := by decide +kernel
theorem dX5_next_231 : decode cX5_next 231 = .ok (.getfield 21, 3) := by decide +kernel
theorem dX5_next_234 : decode cX5_next 234 = .ok (.aload_n 0, 1) := by decide +kernel
theorem dX5_next_235 : decode cX5_next 235 = .ok (.getfield 24, 3) := by decide +kernel
theorem dX5_next_238 : decode cX5_next 238 = .ok (.isub, 1) := by decide +kernel
theorem dX5_next_239 : decode cX5_next 239 = .ok (.iconst 3, 1) := by decide +kernel
theorem dX5_next_240 : decode cX5_next 240 = .ok (.if_icmp .ge 20, 3) := by decide +kernel
theorem dX5_next_243 : decode cX5_next 243 = .ok (.aload_n 0, 1) := by decide +kernel
theorem dX5_next_244 : decode cX5_next 244 = .ok (.bipush 10, 2) := by decide +kernel
theorem dX5_next_246 : decode cX5_next 246 = .ok (.aload_n 0, 1) := by decide +kernel
theorem dX5_next_247 : decode cX5_next 247 = .ok (.getfield 37, 3) := by decide +kernel
theorem dX5_next_250 : decode cX5_next 250 = .ok (.imul, 1) := by decide +kernel
theorem dX5_next_251 : decode cX5_next 251 = .ok (.iload 4, 2) := by decide +kernel
theorem dX5_next_253 : decode cX5_next 253 = .ok (.iadd, 1) := by decide +kernel
theorem dX5_next_254 : decode cX5_next 254 = .ok (.bipush 48, 2) := by decide +kernel
theorem dX5_next_256 : decode cX5_next 256 = .ok (.isub, 1) := by decide +kernel
theorem dX5_next_257 : decode cX5_next 257 = .ok (.putfield 37, 3) := by decide +kernel
theorem dX5_next_260 : decode cX5_next 260 = .ok (.aload_n 0, 1) := by decide +kernel
theorem dX5_next_261 : decode cX5_next 261 = .ok (.dup, 1) := by decide +kernel
theorem dX5_next_262 : decode cX5_next 262 = .ok (.getfield 21, 3) := by decide +kernel
theorem dX5_next_265 : decode cX5_next 265 = .ok (.iconst 1, 1) := by decide +kernel
theorem dX5_next_266 : decode cX5_next 266 = .ok (.iadd, 1) := by decide +kernel
theorem dX5_next_267 : decode cX5_next 267 = .ok (.putfield 21, 3) := by decide +kernel
theorem dX5_next_270 : decode cX5_next 270 = .ok (.goto (-98), 3) := by decide +kernel
theorem dX5_next_273 : decode cX5_next 273 = .ok (.aload_n 0, 1) := by decide +kernel
theorem dX5_next_274 : decode cX5_next 274 = .ok (.iload_n 3, 1) := by decide +kernel
theorem dX5_next_275 : decode cX5_next 275 = .ok (.ifCond .eq 20, 3) := by decide +kernel
theorem dX5_next_278 : decode cX5_next 278 = .ok (.iload_n 2, 1) := by decide +kernel
theorem dX5_next_279 : decode cX5_next 279 = .ok (.ifCond .ne 20, 3) := by decide +kernel
theorem dX5_next_282 : decode cX5_next 282 = .ok (.aload_n 0, 1) := by decide +kernel
theorem dX5_next_283 : decode cX5_next 283 = .ok (.getfield 21, 3) := by decide +kernel
theorem dX5_next_286 : decode cX5_next 286 = .ok (.aload_n 0, 1) := by decide +kernel
theorem dX5_next_287 : decode cX5_next 287 = .ok (.getfield 24, 3) := by decide +kernel
theorem dX5_next_290 : decode cX5_next 290 = .ok (.isub, 1) := by decide +kernel
theorem dX5_next_291 : decode cX5_next 291 = .ok (.iconst 3, 1) := by decide +kernel
theorem dX5_next_292 : decode cX5_next 292 = .ok (.if_icmp .le 7, 3) := by decide +kernel
theorem dX5_next_295 : decode cX5_next 295 = .ok (.iconst 1, 1) := by decide +kernel
theorem dX5_next_296 : decode cX5_next 296 = .ok (.goto 12, 3) := by decide +kernel
theorem dX5_next_299 : decode cX5_next 299 = .ok (.iload_n 2, 1) := by decide +kernel
theorem dX5_next_300 : decode cX5_next 300 = .ok (.ifCond .eq 7, 3) := by decide +kernel
theorem dX5_next_303 : decode cX5_next 303 = .ok (.iconst 2, 1) := by decide +kernel
theorem dX5_next_304 : decode cX5_next 304 = .ok (.goto 4, 3) := by decide +kernel
theorem dX5_next_307 : decode cX5_next 307 = .ok (.iconst 3, 1) := by decide +kernel
theorem dX5_next_308 : decode cX5_next 308 = .ok (.putfield 27, 3) := by decide +kernel
theorem dX5_next_311 : decode cX5_next 311 = .ok (.return_, 1) := by decide +kernel
theorem dX5_isWord_0 : decode cX5_isWord 0 = .ok (.iload 4, 2) := by decide +kernel
theorem dX5_isWord_2 : decode cX5_isWord 2 = .ok (.ifCond .ne 7, 3) := by decide +kernel
theorem dX5_isWord_5 : decode cX5_isWord 5 = .ok (.iconst 3, 1) := by decide +kernel
theorem dX5_isWord_6 : decode cX5_isWord 6 = .ok (.goto 14, 3) := by decide +kernel
theorem dX5_isWord_9 : decode cX5_isWord 9 = .ok (.iload 5, 2) := by decide +kernel
theorem dX5_isWord_11 : decode cX5_isWord 11 = .ok (.ifCond .ne 7, 3) := by decide +kernel
theorem dX5_isWord_14 : decode cX5_isWord 14 = .ok (.iconst 4, 1) := by decide +kernel
theorem dX5_isWord_15 : decode cX5_isWord 15 = .ok (.goto 5, 3) := by decide +kernel
theorem dX5_isWord_18 : decode cX5_isWord 18 = .ok (.bipush 6, 2) := by decide +kernel
theorem dX5_isWord_20 : decode cX5_isWord 20 = .ok (.istore 7, 2) := by decide +kernel
theorem dX5_isWord_22 : decode cX5_isWord 22 = .ok (.aload_n 0, 1) := by decide +kernel
theorem dX5_isWord_23 : decode cX5_isWord 23 = .ok (.getfield 27, 3) := by decide +kernel
theorem dX5_isWord_26 : decode cX5_isWord 26 = .ok (.iconst 2, 1) := by decide +kernel
theorem dX5_isWord_27 : decode cX5_isWord 27 = .ok (.if_icmp .ne 17, 3) := by decide +kernel
theorem dX5_isWord_30 : decode cX5_isWord 30 = .ok (.aload_n 0, 1) := by decide +kernel
theorem dX5_isWord_31 : decode cX5_isWord 31 = .ok (.getfield 21, 3) := by decide +kernel
theorem dX5_isWord_34 : decode cX5_isWord 34 = .ok (.aload_n 0, 1) := by decide +kernel
theorem dX5_isWord_35 : decode cX5_isWord 35 = .ok (.getfield 24, 3) := by decide +kernel
theorem dX5_isWord_38 : decode cX5_isWord 38 = .ok (.isub, 1) := by decide +kernel
theorem dX5_isWord_39 : decode cX5_isWord 39 = .ok (.iload 7, 2) := by decide +kernel
theorem dX5_isWord_41 : decode cX5_isWord 41 = .ok (.if_icmp .eq 5, 3) := by decide +kernel
theorem dX5_isWord_44 : decode cX5_isWord 44 = .ok (.iconst 0, 1) := by decide +kernel
theorem dX5_isWord_45 : decode cX5_isWord 45 = .ok (.ireturn, 1) := by decide +kernel
theorem dX5_isWord_46 : decode cX5_isWord 46 = .ok (.iconst 0, 1) := by decide +kernel
theorem dX5_isWord_47 : decode cX5_isWord 47 = .ok (.istore 8, 2) := by decide +kernel
theorem dX5_isWord_49 : decode cX5_isWord 49 = .ok (.iload 8, 2) := by decide +kernel
theorem dX5_isWord_51 : decode cX5_isWord 51 = .ok (.iload 7, 2) := by decide +kernel
theorem dX5_isWord_53 : decode cX5_isWord 53 = .ok (.if_icmp .ge 79, 3) := by decide +kernel
theorem dX5_isWord_56 : decode cX5_isWord 56 = .ok (.aload_n 0, 1) := by decide +kernel
theorem dX5_isWord_57 : decode cX5_isWord 57 = .ok (.getfield 7, 3) := by decide +kernel
theorem dX5_isWord_60 : decode cX5_isWord 60 = .ok (.aload_n 0, 1) := by decide +kernel
theorem dX5_isWord_61 : decode cX5_isWord 61 = .ok (.getfield 24, 3) := by decide +kernel
theorem dX5_isWord_64 : decode cX5_isWord 64 = .ok (.iload 8, 2) := by decide +kernel
theorem dX5_isWord_66 : decode cX5_isWord 66 = .ok (.iadd, 1) := by decide +kernel
theorem dX5_isWord_67 : decode cX5_isWord 67 = .ok (.iaload, 1) := by decide +kernel
theorem dX5_isWord_68 : decode cX5_isWord 68 = .ok (.iload 8, 2) := by decide +kernel
theorem dX5_isWord_70 : decode cX5_isWord 70 = .ok (.ifCond .ne 7, 3) := by decide +kernel
theorem dX5_isWord_73 : decode cX5_isWord 73 = .ok (.iload_n 1, 1) := by decide +kernel
theorem dX5_isWord_74 : decode cX5_isWord 74 = .ok (.goto 47, 3) := by decide +kernel
theorem dX5_isWord_77 : decode cX5_isWord 77 = .ok (.iload 8, 2) := by decide +kernel
theorem dX5_isWord_79 : decode cX5_isWord 79 = .ok (.iconst 1, 1) := by decide +kernel
theorem dX5_isWord_80 : decode cX5_isWord 80 = .ok (.if_icmp .ne 7, 3) := by decide +kernel
theorem dX5_isWord_83 : decode cX5_isWord 83 = .ok (.iload_n 2, 1) := by decide +kernel
theorem dX5_isWord_84 : decode cX5_isWord 84 = .ok (.goto 37, 3) := by decide +kernel
theorem dX5_isWord_87 : decode cX5_isWord 87 = .ok (.iload 8, 2) := by decide +kernel
theorem dX5_isWord_89 : decode cX5_isWord 89 = .ok (.iconst 2, 1) := by decide +kernel
theorem dX5_isWord_90 : decode cX5_isWord 90 = .ok (.if_icmp .ne 7, 3) := by decide +kernel
theorem dX5_isWord_93 : decode cX5_isWord 93 = .ok (.iload_n 3, 1) := by decide +kernel
theorem dX5_isWord_94 : decode cX5_isWord 94 = .ok (.goto 27, 3) := by decide +kernel
theorem dX5_isWord_97 : decode cX5_isWord 97 = .ok (.iload 8, 2) := by decide +kernel
theorem dX5_isWord_99 : decode cX5_isWord 99 = .ok (.iconst 3, 1) := by decide +kernel
theorem dX5_isWord_100 : decode cX5_isWord 100 = .ok (.if_icmp .ne 8, 3) := by decide +kernel
theorem dX5_isWord_103 : decode cX5_isWord 103 = .ok (.iload 4, 2) := by decide +kernel
theorem dX5_isWord_105 : decode cX5_isWord 105 = .ok (.goto 16, 3) := by decide +kernel
theorem dX5_isWord_108 : decode cX5_isWord 108 = .ok (.iload 8, 2) := by decide +kernel
theorem dX5_isWord_110 : decode cX5_isWord 110 = .ok (.iconst 4, 1) := by decide +kernel
theorem dX5_isWord_111 : decode cX5_isWord 111 = .ok (.if_icmp .ne 8, 3) := by decide +kernel
theorem dX5_isWord_114 : decode cX5_isWord 114 = .ok (.iload 5, 2) := by decide +kernel
theorem dX5_isWord_116 : decode cX5_isWord 116 = .ok (.goto 5, 3) := by decide +kernel
theorem dX5_isWord_119 : decode cX5_isWord 119 = .ok (.iload 6, 2) := by decide +kernel
theorem dX5_isWord_121 : decode cX5_isWord 121 = .ok (.if_icmp .eq 5, 3) := by decide +kernel
theorem dX5_isWord_124 : decode cX5_isWord 124 = .ok (.iconst 0, 1) := by decide +kernel
theorem dX5_isWord_125 : decode cX5_isWord 125 = .ok (.ireturn, 1) := by decide +kernel
theorem dX5_isWord_126 : decode cX5_isWord 126 = .ok (.iinc 8 1, 3) := by decide +kernel
theorem dX5_isWord_129 : decode cX5_isWord 129 = .ok (.goto (-80), 3) := by decide +kernel
theorem dX5_isWord_132 : decode cX5_isWord 132 = .ok (.iconst 1, 1) := by decide +kernel
theorem dX5_isWord_133 : decode cX5_isWord 133 = .ok (.ireturn, 1) := by decide +kernel
theorem dX5_bad_0 : decode cX5_bad 0 = .ok (.aload_n 0, 1) := by decide +kernel
theorem dX5_bad_1 : decode cX5_bad 1 = .ok (.aload_n 0, 1) := by decide +kernel
theorem dX5_bad_2 : decode cX5_bad 2 = .ok (.getfield 27, 3) := by decide +kernel
theorem dX5_bad_5 : decode cX5_bad 5 = .ok (.iconst 1, 1) := by decide +kernel
theorem dX5_bad_6 : decode cX5_bad 6 = .ok (.if_icmp .ne 7, 3) := by decide +kernel
theorem dX5_bad_9 : decode cX5_bad 9 = .ok (.iconst 1, 1) := by decide +kernel
theorem dX5_bad_10 : decode cX5_bad 10 = .ok (.goto 4, 3) := by decide +kernel
theorem dX5_bad_13 : decode cX5_bad 13 = .ok (.iload_n 1, 1) := by decide +kernel
theorem dX5_bad_14 : decode cX5_bad 14 = .ok (.putfield 44, 3) := by decide +kernel
theorem dX5_bad_17 : decode cX5_bad 17 = .ok (.aload_n 0, 1) := by decide +kernel
theorem dX5_bad_18 : decode cX5_bad 18 = .ok (.aload_n 0, 1) := by decide +kernel
theorem dX5_bad_19 : decode cX5_bad 19 = .ok (.getfield 24, 3) := by decide +kernel
theorem dX5_bad_22 : decode cX5_bad 22 = .ok (.putfield 47, 3) := by decide +kernel
theorem dX5_bad_25 : decode cX5_bad 25 = .ok (.iconst 0, 1) := by decide +kernel
theorem dX5_bad_26 : decode cX5_bad 26 = .ok (.ireturn, 1) := by decide +kernel
theorem dX5_init_0 : decode cX5_init 0 = .ok (.aload_n 0, 1) := by decide +kernel
theorem dX5_init_1 : decode cX5_init 1 = .ok (.invokespecial 50, 3) := by decide +kernel
theorem dX5_init_4 : decode cX5_init 4 = .ok (.aload_n 0, 1) := by decide +kernel
theorem dX5_init_5 : decode cX5_init 5 = .ok (.sipush 540, 3) := by decide +kernel
theorem dX5_init_8 : decode cX5_init 8 = .ok (.newarray .int, 2) := by decide +kernel
theorem dX5_init_10 : decode cX5_init 10 = .ok (.putfield 7, 3) := by decide +kernel
theorem dX5_init_13 : decode cX5_init 13 = .ok (.aload_n 0, 1) := by decide +kernel
theorem dX5_init_14 : decode cX5_init 14 = .ok (.sipush 1289, 3) := by decide +kernel
theorem dX5_init_17 : decode cX5_init 17 = .ok (.newarray .int, 2) := by decide +kernel
theorem dX5_init_19 : decode cX5_init 19 = .ok (.putfield 56, 3) := by decide +kernel
theorem dX5_init_22 : decode cX5_init 22 = .ok (.aload_n 0, 1) := by decide +kernel
theorem dX5_init_23 : decode cX5_init 23 = .ok (.sipush 1289, 3) := by decide +kernel
theorem dX5_init_26 : decode cX5_init 26 = .ok (.newarray .int, 2) := by decide +kernel
theorem dX5_init_28 : decode cX5_init 28 = .ok (.putfield 59, 3) := by decide +kernel
theorem dX5_init_31 : decode cX5_init 31 = .ok (.aload_n 0, 1) := by decide +kernel
theorem dX5_init_32 : decode cX5_init 32 = .ok (.sipush 2578, 3) := by decide +kernel
theorem dX5_init_35 : decode cX5_init 35 = .ok (.newarray .int, 2) := by decide +kernel
theorem dX5_init_37 : decode cX5_init 37 = .ok (.putfield 62, 3) := by decide +kernel
theorem dX5_init_40 : decode cX5_init 40 = .ok (.aload_n 0, 1) := by decide +kernel
theorem dX5_init_41 : decode cX5_init 41 = .ok (.sipush 10312, 3) := by decide +kernel
theorem dX5_init_44 : decode cX5_init 44 = .ok (.newarray .int, 2) := by decide +kernel
theorem dX5_init_46 : decode cX5_init 46 = .ok (.putfield 65, 3) := by decide +kernel
theorem dX5_init_49 : decode cX5_init 49 = .ok (.aload_n 0, 1) := by decide +kernel
theorem dX5_init_50 : decode cX5_init 50 = .ok (.iconst 2, 1) := by decide +kernel
theorem dX5_init_51 : decode cX5_init 51 = .ok (.newarray .boolean, 2) := by decide +kernel
theorem dX5_init_53 : decode cX5_init 53 = .ok (.putfield 68, 3) := by decide +kernel
theorem dX5_init_56 : decode cX5_init 56 = .ok (.aload_n 0, 1) := by decide +kernel
theorem dX5_init_57 : decode cX5_init 57 = .ok (.sipush 256, 3) := by decide +kernel
theorem dX5_init_60 : decode cX5_init 60 = .ok (.newarray .int, 2) := by decide +kernel
theorem dX5_init_62 : decode cX5_init 62 = .ok (.putfield 72, 3) := by decide +kernel
theorem dX5_init_65 : decode cX5_init 65 = .ok (.aload_n 0, 1) := by decide +kernel
theorem dX5_init_66 : decode cX5_init 66 = .ok (.sipush 256, 3) := by decide +kernel
theorem dX5_init_69 : decode cX5_init 69 = .ok (.newarray .int, 2) := by decide +kernel
theorem dX5_init_71 : decode cX5_init 71 = .ok (.putfield 75, 3) := by decide +kernel
theorem dX5_init_74 : decode cX5_init 74 = .ok (.aload_n 0, 1) := by decide +kernel
theorem dX5_init_75 : decode cX5_init 75 = .ok (.sipush 2304, 3) := by decide +kernel
theorem dX5_init_78 : decode cX5_init 78 = .ok (.newarray .int, 2) := by decide +kernel
theorem dX5_init_80 : decode cX5_init 80 = .ok (.putfield 78, 3) := by decide +kernel
theorem dX5_init_83 : decode cX5_init 83 = .ok (.aload_n 0, 1) := by decide +kernel
theorem dX5_init_84 : decode cX5_init 84 = .ok (.sipush 256, 3) := by decide +kernel
theorem dX5_init_87 : decode cX5_init 87 = .ok (.newarray .int, 2) := by decide +kernel
theorem dX5_init_89 : decode cX5_init 89 = .ok (.putfield 81, 3) := by decide +kernel
theorem dX5_init_92 : decode cX5_init 92 = .ok (.aload_n 0, 1) := by decide +kernel
theorem dX5_init_93 : decode cX5_init 93 = .ok (.sipush 2304, 3) := by decide +kernel
theorem dX5_init_96 : decode cX5_init 96 = .ok (.newarray .int, 2) := by decide +kernel
theorem dX5_init_98 : decode cX5_init 98 = .ok (.putfield 84, 3) := by decide +kernel
theorem dX5_init_101 : decode cX5_init 101 = .ok (.aload_n 0, 1) := by decide +kernel
theorem dX5_init_102 : decode cX5_init 102 = .ok (.bipush 8, 2) := by decide +kernel
theorem dX5_init_104 : decode cX5_init 104 = .ok (.newarray .int, 2) := by decide +kernel
theorem dX5_init_106 : decode cX5_init 106 = .ok (.putfield 87, 3) := by decide +kernel
theorem dX5_init_109 : decode cX5_init 109 = .ok (.aload_n 0, 1) := by decide +kernel
theorem dX5_init_110 : decode cX5_init 110 = .ok (.sipush 256, 3) := by decide +kernel
theorem dX5_init_113 : decode cX5_init 113 = .ok (.newarray .int, 2) := by decide +kernel
theorem dX5_init_115 : decode cX5_init 115 = .ok (.putfield 90, 3) := by decide +kernel
theorem dX5_init_118 : decode cX5_init 118 = .ok (.return_, 1) := by decide +kernel
theorem dX5_copy_0 : decode cX5_copy 0 = .ok (.iconst 0, 1) := by decide +kernel
theorem dX5_copy_1 : decode cX5_copy 1 = .ok (.istore 4, 2) := by decide +kernel
theorem dX5_copy_3 : decode cX5_copy 3 = .ok (.iload 4, 2) := by decide +kernel
theorem dX5_copy_5 : decode cX5_copy 5 = .ok (.sipush 1289, 3) := by decide +kernel
theorem dX5_copy_8 : decode cX5_copy 8 = .ok (.if_icmp .ge 21, 3) := by decide +kernel
theorem dX5_copy_11 : decode cX5_copy 11 = .ok (.aload_n 2, 1) := by decide +kernel
theorem dX5_copy_12 : decode cX5_copy 12 = .ok (.iload_n 3, 1) := by decide +kernel
theorem dX5_copy_13 : decode cX5_copy 13 = .ok (.iload 4, 2) := by decide +kernel
theorem dX5_copy_15 : decode cX5_copy 15 = .ok (.iadd, 1) := by decide +kernel
theorem dX5_copy_16 : decode cX5_copy 16 = .ok (.aload_n 0, 1) := by decide +kernel
theorem dX5_copy_17 : decode cX5_copy 17 = .ok (.iload_n 1, 1) := by decide +kernel
theorem dX5_copy_18 : decode cX5_copy 18 = .ok (.iload 4, 2) := by decide +kernel
theorem dX5_copy_20 : decode cX5_copy 20 = .ok (.iadd, 1) := by decide +kernel
theorem dX5_copy_21 : decode cX5_copy 21 = .ok (.iaload, 1) := by decide +kernel
theorem dX5_copy_22 : decode cX5_copy 22 = .ok (.iastore, 1) := by decide +kernel
theorem dX5_copy_23 : decode cX5_copy 23 = .ok (.iinc 4 1, 3) := by decide +kernel
theorem dX5_copy_26 : decode cX5_copy 26 = .ok (.goto (-23), 3) := by decide +kernel
theorem dX5_copy_29 : decode cX5_copy 29 = .ok (.return_, 1) := by decide +kernel
theorem dX5_readThings_0 : decode cX5_readThings 0 = .ok (.aload_n 0, 1) := by decide +kernel
theorem dX5_readThings_1 : decode cX5_readThings 1 = .ok (.invokevirtual 93, 3) := by decide +kernel
theorem dX5_readThings_4 : decode cX5_readThings 4 = .ok (.aload_n 0, 1) := by decide +kernel
theorem dX5_readThings_5 : decode cX5_readThings 5 = .ok (.getfield 27, 3) := by decide +kernel
theorem dX5_readThings_8 : decode cX5_readThings 8 = .ok (.iconst 3, 1) := by decide +kernel
theorem dX5_readThings_9 : decode cX5_readThings 9 = .ok (.if_icmp .eq 9, 3) := by decide +kernel
theorem dX5_readThings_12 : decode cX5_readThings 12 = .ok (.aload_n 0, 1) := by decide +kernel
theorem dX5_readThings_13 : decode cX5_readThings 13 = .ok (.iconst 1, 1) := by decide +kernel
theorem dX5_readThings_14 : decode cX5_readThings 14 = .ok (.invokevirtual 96, 3) := by decide +kernel
theorem dX5_readThings_17 : decode cX5_readThings 17 = .ok (.ireturn, 1) := by decide +kernel
theorem dX5_readThings_18 : decode cX5_readThings 18 = .ok (.aload_n 0, 1) := by decide +kernel
theorem dX5_readThings_19 : decode cX5_readThings 19 = .ok (.getfield 37, 3) := by decide +kernel
theorem dX5_readThings_22 : decode cX5_readThings 22 = .ok (.iconst 1, 1) := by decide +kernel
theorem dX5_readThings_23 : decode cX5_readThings 23 = .ok (.bipush 8, 2) := by decide +kernel
theorem dX5_readThings_25 : decode cX5_readThings 25 = .ok (.invokestatic 99, 3) := by decide +kernel
theorem dX5_readThings_28 : decode cX5_readThings 28 = .ok (.ifCond .ne 9, 3) := by decide +kernel
theorem dX5_readThings_31 : decode cX5_readThings 31 = .ok (.aload_n 0, 1) := by decide +kernel
theorem dX5_readThings_32 : decode cX5_readThings 32 = .ok (.iconst 2, 1) := by decide +kernel
theorem dX5_readThings_33 : decode cX5_readThings 33 = .ok (.invokevirtual 96, 3) := by decide +kernel
theorem dX5_readThings_36 : decode cX5_readThings 36 = .ok (.ireturn, 1) := by decide +kernel
theorem dX5_readThings_37 : decode cX5_readThings 37 = .ok (.aload_n 0, 1) := by decide +kernel
theorem dX5_readThings_38 : decode cX5_readThings 38 = .ok (.getfield 59, 3) := by decide +kernel
theorem dX5_readThings_41 : decode cX5_readThings 41 = .ok (.iconst 0, 1) := by decide +kernel
theorem dX5_readThings_42 : decode cX5_readThings 42 = .ok (.aload_n 0, 1) := by decide +kernel
theorem dX5_readThings_43 : decode cX5_readThings 43 = .ok (.getfield 37, 3) := by decide +kernel
theorem dX5_readThings_46 : decode cX5_readThings 46 = .ok (.iastore, 1) := by decide +kernel
theorem dX5_readThings_47 : decode cX5_readThings 47 = .ok (.aload_n 0, 1) := by decide +kernel
theorem dX5_readThings_48 : decode cX5_readThings 48 = .ok (.invokevirtual 93, 3) := by decide +kernel
theorem dX5_readThings_51 : decode cX5_readThings 51 = .ok (.iconst 1, 1) := by decide +kernel
theorem dX5_readThings_52 : decode cX5_readThings 52 = .ok (.ireturn, 1) := by decide +kernel
theorem dX5_letters_0 : decode cX5_letters 0 = .ok (.iconst 0, 1) := by decide +kernel
theorem dX5_letters_1 : decode cX5_letters 1 = .ok (.istore_n 1, 1) := by decide +kernel
theorem dX5_letters_2 : decode cX5_letters 2 = .ok (.aload_n 0, 1) := by decide +kernel
theorem dX5_letters_3 : decode cX5_letters 3 = .ok (.getfield 24, 3) := by decide +kernel
theorem dX5_letters_6 : decode cX5_letters 6 = .ok (.istore_n 2, 1) := by decide +kernel
theorem dX5_letters_7 : decode cX5_letters 7 = .ok (.iload_n 2, 1) := by decide +kernel
theorem dX5_letters_8 : decode cX5_letters 8 = .ok (.aload_n 0, 1) := by decide +kernel
theorem dX5_letters_9 : decode cX5_letters 9 = .ok (.getfield 21, 3) := by decide +kernel
theorem dX5_letters_12 : decode cX5_letters 12 = .ok (.if_icmp .ge 45, 3) := by decide +kernel
theorem dX5_letters_15 : decode cX5_letters 15 = .ok (.aload_n 0, 1) := by decide +kernel
theorem dX5_letters_16 : decode cX5_letters 16 = .ok (.getfield 7, 3) := by decide +kernel
theorem dX5_letters_19 : decode cX5_letters 19 = .ok (.iload_n 2, 1) := by decide +kernel
theorem dX5_letters_20 : decode cX5_letters 20 = .ok (.iaload, 1) := by decide +kernel
theorem dX5_letters_21 : decode cX5_letters 21 = .ok (.bipush 97, 2) := by decide +kernel
theorem dX5_letters_23 : decode cX5_letters 23 = .ok (.isub, 1) := by decide +kernel
theorem dX5_letters_24 : decode cX5_letters 24 = .ok (.istore_n 3, 1) := by decide +kernel
theorem dX5_letters_25 : decode cX5_letters 25 = .ok (.iload_n 3, 1) := by decide +kernel
theorem dX5_letters_26 : decode cX5_letters 26 = .ok (.aload_n 0, 1) := by decide +kernel
theorem dX5_letters_27 : decode cX5_letters 27 = .ok (.getfield 59, 3) := by decide +kernel
theorem dX5_letters_30 : decode cX5_letters 30 = .ok (.iconst 0, 1) := by decide +kernel
theorem dX5_letters_31 : decode cX5_letters 31 = .ok (.iaload, 1) := by decide +kernel
theorem dX5_letters_32 : decode cX5_letters 32 = .ok (.if_icmp .ge 11, 3) := by decide +kernel
theorem dX5_letters_35 : decode cX5_letters 35 = .ok (.iload_n 1, 1) := by decide +kernel
theorem dX5_letters_36 : decode cX5_letters 36 = .ok (.iload_n 3, 1) := by decide +kernel
theorem dX5_letters_37 : decode cX5_letters 37 = .ok (.invokestatic 103, 3) := by decide +kernel
theorem dX5_letters_40 : decode cX5_letters 40 = .ok (.ifCond .eq 5, 3) := by decide +kernel
theorem dX5_letters_43 : decode cX5_letters 43 = .ok (.iconst (-1), 1) := by decide +kernel
theorem dX5_letters_44 : decode cX5_letters 44 = .ok (.ireturn, 1) := by decide +kernel
theorem dX5_letters_45 : decode cX5_letters 45 = .ok (.iload_n 1, 1) := by decide +kernel
theorem dX5_letters_46 : decode cX5_letters 46 = .ok (.iconst 1, 1) := by decide +kernel
theorem dX5_letters_47 : decode cX5_letters 47 = .ok (.iload_n 3, 1) := by decide +kernel
theorem dX5_letters_48 : decode cX5_letters 48 = .ok (.ishl, 1) := by decide +kernel
theorem dX5_letters_49 : decode cX5_letters 49 = .ok (.ior, 1) := by decide +kernel
theorem dX5_letters_50 : decode cX5_letters 50 = .ok (.istore_n 1, 1) := by decide +kernel
theorem dX5_letters_51 : decode cX5_letters 51 = .ok (.iinc 2 1, 3) := by decide +kernel
theorem dX5_letters_54 : decode cX5_letters 54 = .ok (.goto (-47), 3) := by decide +kernel
theorem dX5_letters_57 : decode cX5_letters 57 = .ok (.iload_n 1, 1) := by decide +kernel
theorem dX5_letters_58 : decode cX5_letters 58 = .ok (.ireturn, 1) := by decide +kernel
theorem dX5_readSet_0 : decode cX5_readSet 0 = .ok (.aload_n 0, 1) := by decide +kernel
theorem dX5_readSet_1 : decode cX5_readSet 1 = .ok (.invokevirtual 93, 3) := by decide +kernel
theorem dX5_readSet_4 : decode cX5_readSet 4 = .ok (.aload_n 0, 1) := by decide +kernel
theorem dX5_readSet_5 : decode cX5_readSet 5 = .ok (.getfield 27, 3) := by decide +kernel
theorem dX5_readSet_8 : decode cX5_readSet 8 = .ok (.iconst 2, 1) := by decide +kernel
theorem dX5_readSet_9 : decode cX5_readSet 9 = .ok (.if_icmp .eq 9, 3) := by decide +kernel
theorem dX5_readSet_12 : decode cX5_readSet 12 = .ok (.aload_n 0, 1) := by decide +kernel
theorem dX5_readSet_13 : decode cX5_readSet 13 = .ok (.iconst 1, 1) := by decide +kernel
theorem dX5_readSet_14 : decode cX5_readSet 14 = .ok (.invokevirtual 96, 3) := by decide +kernel
theorem dX5_readSet_17 : decode cX5_readSet 17 = .ok (.ireturn, 1) := by decide +kernel
theorem dX5_readSet_18 : decode cX5_readSet 18 = .ok (.aload_n 0, 1) := by decide +kernel
theorem dX5_readSet_19 : decode cX5_readSet 19 = .ok (.invokevirtual 107, 3) := by decide +kernel
theorem dX5_readSet_22 : decode cX5_readSet 22 = .ok (.istore_n 1, 1) := by decide +kernel
theorem dX5_readSet_23 : decode cX5_readSet 23 = .ok (.iload_n 1, 1) := by decide +kernel
theorem dX5_readSet_24 : decode cX5_readSet 24 = .ok (.iconst (-1), 1) := by decide +kernel
theorem dX5_readSet_25 : decode cX5_readSet 25 = .ok (.if_icmp .ne 9, 3) := by decide +kernel
theorem dX5_readSet_28 : decode cX5_readSet 28 = .ok (.aload_n 0, 1) := by decide +kernel
theorem dX5_readSet_29 : decode cX5_readSet 29 = .ok (.iconst 3, 1) := by decide +kernel
theorem dX5_readSet_30 : decode cX5_readSet 30 = .ok (.invokevirtual 96, 3) := by decide +kernel
theorem dX5_readSet_33 : decode cX5_readSet 33 = .ok (.ireturn, 1) := by decide +kernel
theorem dX5_readSet_34 : decode cX5_readSet 34 = .ok (.aload_n 0, 1) := by decide +kernel
theorem dX5_readSet_35 : decode cX5_readSet 35 = .ok (.getfield 59, 3) := by decide +kernel
theorem dX5_readSet_38 : decode cX5_readSet 38 = .ok (.iconst 1, 1) := by decide +kernel
theorem dX5_readSet_39 : decode cX5_readSet 39 = .ok (.iload_n 1, 1) := by decide +kernel
theorem dX5_readSet_40 : decode cX5_readSet 40 = .ok (.iadd, 1) := by decide +kernel
theorem dX5_readSet_41 : decode cX5_readSet 41 = .ok (.iaload, 1) := by decide +kernel
theorem dX5_readSet_42 : decode cX5_readSet 42 = .ok (.ifCond .le 9, 3) := by decide +kernel
theorem dX5_readSet_45 : decode cX5_readSet 45 = .ok (.aload_n 0, 1) := by decide +kernel
theorem dX5_readSet_46 : decode cX5_readSet 46 = .ok (.iconst 4, 1) := by decide +kernel
theorem dX5_readSet_47 : decode cX5_readSet 47 = .ok (.invokevirtual 96, 3) := by decide +kernel
theorem dX5_readSet_50 : decode cX5_readSet 50 = .ok (.ireturn, 1) := by decide +kernel
theorem dX5_readSet_51 : decode cX5_readSet 51 = .ok (.aload_n 0, 1) := by decide +kernel
theorem dX5_readSet_52 : decode cX5_readSet 52 = .ok (.getfield 59, 3) := by decide +kernel
theorem dX5_readSet_55 : decode cX5_readSet 55 = .ok (.iconst 1, 1) := by decide +kernel
theorem dX5_readSet_56 : decode cX5_readSet 56 = .ok (.iload_n 1, 1) := by decide +kernel
theorem dX5_readSet_57 : decode cX5_readSet 57 = .ok (.iadd, 1) := by decide +kernel
theorem dX5_readSet_58 : decode cX5_readSet 58 = .ok (.iconst 1, 1) := by decide +kernel
theorem dX5_readSet_59 : decode cX5_readSet 59 = .ok (.iastore, 1) := by decide +kernel
theorem dX5_readSet_60 : decode cX5_readSet 60 = .ok (.aload_n 0, 1) := by decide +kernel
theorem dX5_readSet_61 : decode cX5_readSet 61 = .ok (.invokevirtual 93, 3) := by decide +kernel
theorem dX5_readSet_64 : decode cX5_readSet 64 = .ok (.aload_n 0, 1) := by decide +kernel
theorem dX5_readSet_65 : decode cX5_readSet 65 = .ok (.getfield 27, 3) := by decide +kernel
theorem dX5_readSet_68 : decode cX5_readSet 68 = .ok (.iconst 3, 1) := by decide +kernel
theorem dX5_readSet_69 : decode cX5_readSet 69 = .ok (.if_icmp .eq 5, 3) := by decide +kernel
theorem dX5_readSet_72 : decode cX5_readSet 72 = .ok (.iconst 1, 1) := by decide +kernel
theorem dX5_readSet_73 : decode cX5_readSet 73 = .ok (.ireturn, 1) := by decide +kernel
theorem dX5_readSet_74 : decode cX5_readSet 74 = .ok (.aload_n 0, 1) := by decide +kernel
theorem dX5_readSet_75 : decode cX5_readSet 75 = .ok (.getfield 37, 3) := by decide +kernel
theorem dX5_readSet_78 : decode cX5_readSet 78 = .ok (.iconst 1, 1) := by decide +kernel
theorem dX5_readSet_79 : decode cX5_readSet 79 = .ok (.sipush 999, 3) := by decide +kernel
theorem dX5_readSet_82 : decode cX5_readSet 82 = .ok (.invokestatic 99, 3) := by decide +kernel
theorem dX5_readSet_85 : decode cX5_readSet 85 = .ok (.ifCond .ne 9, 3) := by decide +kernel
theorem dX5_readSet_88 : decode cX5_readSet 88 = .ok (.aload_n 0, 1) := by decide +kernel
theorem dX5_readSet_89 : decode cX5_readSet 89 = .ok (.iconst 2, 1) := by decide +kernel
theorem dX5_readSet_90 : decode cX5_readSet 90 = .ok (.invokevirtual 96, 3) := by decide +kernel
theorem dX5_readSet_93 : decode cX5_readSet 93 = .ok (.ireturn, 1) := by decide +kernel
theorem dX5_readSet_94 : decode cX5_readSet 94 = .ok (.aload_n 0, 1) := by decide +kernel
theorem dX5_readSet_95 : decode cX5_readSet 95 = .ok (.getfield 59, 3) := by decide +kernel
theorem dX5_readSet_98 : decode cX5_readSet 98 = .ok (.iconst 1, 1) := by decide +kernel
theorem dX5_readSet_99 : decode cX5_readSet 99 = .ok (.iload_n 1, 1) := by decide +kernel
theorem dX5_readSet_100 : decode cX5_readSet 100 = .ok (.iadd, 1) := by decide +kernel
theorem dX5_readSet_101 : decode cX5_readSet 101 = .ok (.aload_n 0, 1) := by decide +kernel
theorem dX5_readSet_102 : decode cX5_readSet 102 = .ok (.getfield 37, 3) := by decide +kernel
theorem dX5_readSet_105 : decode cX5_readSet 105 = .ok (.iastore, 1) := by decide +kernel
theorem dX5_readSet_106 : decode cX5_readSet 106 = .ok (.aload_n 0, 1) := by decide +kernel
theorem dX5_readSet_107 : decode cX5_readSet 107 = .ok (.invokevirtual 93, 3) := by decide +kernel
theorem dX5_readSet_110 : decode cX5_readSet 110 = .ok (.iconst 1, 1) := by decide +kernel
theorem dX5_readSet_111 : decode cX5_readSet 111 = .ok (.ireturn, 1) := by decide +kernel
theorem dX5_low_0 : decode cX5_low 0 = .ok (.iconst 0, 1) := by decide +kernel
theorem dX5_low_1 : decode cX5_low 1 = .ok (.istore_n 1, 1) := by decide +kernel
theorem dX5_low_2 : decode cX5_low 2 = .ok (.iload_n 0, 1) := by decide +kernel
theorem dX5_low_3 : decode cX5_low 3 = .ok (.iload_n 1, 1) := by decide +kernel
theorem dX5_low_4 : decode cX5_low 4 = .ok (.invokestatic 103, 3) := by decide +kernel
theorem dX5_low_7 : decode cX5_low 7 = .ok (.ifCond .ne 9, 3) := by decide +kernel
theorem dX5_low_10 : decode cX5_low 10 = .ok (.iinc 1 1, 3) := by decide +kernel
theorem dX5_low_13 : decode cX5_low 13 = .ok (.goto (-11), 3) := by decide +kernel
theorem dX5_low_16 : decode cX5_low 16 = .ok (.iload_n 1, 1) := by decide +kernel
theorem dX5_low_17 : decode cX5_low 17 = .ok (.ireturn, 1) := by decide +kernel
theorem dX5_joins_0 : decode cX5_joins 0 = .ok (.aload_n 0, 1) := by decide +kernel
theorem dX5_joins_1 : decode cX5_joins 1 = .ok (.sipush 257, 3) := by decide +kernel
theorem dX5_joins_4 : decode cX5_joins 4 = .ok (.iload_n 1, 1) := by decide +kernel
theorem dX5_joins_5 : decode cX5_joins 5 = .ok (.iadd, 1) := by decide +kernel
theorem dX5_joins_6 : decode cX5_joins 6 = .ok (.dup2, 1) := by decide +kernel
theorem dX5_joins_7 : decode cX5_joins 7 = .ok (.iaload, 1) := by decide +kernel
theorem dX5_joins_8 : decode cX5_joins 8 = .ok (.iconst 1, 1) := by decide +kernel
theorem dX5_joins_9 : decode cX5_joins 9 = .ok (.iload_n 2, 1) := by decide +kernel
theorem dX5_joins_10 : decode cX5_joins 10 = .ok (.ishl, 1) := by decide +kernel
theorem dX5_joins_11 : decode cX5_joins 11 = .ok (.ixor, 1) := by decide +kernel
theorem dX5_joins_12 : decode cX5_joins 12 = .ok (.iastore, 1) := by decide +kernel
theorem dX5_joins_13 : decode cX5_joins 13 = .ok (.aload_n 0, 1) := by decide +kernel
theorem dX5_joins_14 : decode cX5_joins 14 = .ok (.sipush 257, 3) := by decide +kernel
theorem dX5_joins_17 : decode cX5_joins 17 = .ok (.iload_n 2, 1) := by decide +kernel
theorem dX5_joins_18 : decode cX5_joins 18 = .ok (.iadd, 1) := by decide +kernel
theorem dX5_joins_19 : decode cX5_joins 19 = .ok (.dup2, 1) := by decide +kernel
theorem dX5_joins_20 : decode cX5_joins 20 = .ok (.iaload, 1) := by decide +kernel
theorem dX5_joins_21 : decode cX5_joins 21 = .ok (.iconst 1, 1) := by decide +kernel
theorem dX5_joins_22 : decode cX5_joins 22 = .ok (.iload_n 1, 1) := by decide +kernel
theorem dX5_joins_23 : decode cX5_joins 23 = .ok (.ishl, 1) := by decide +kernel
theorem dX5_joins_24 : decode cX5_joins 24 = .ok (.ixor, 1) := by decide +kernel
theorem dX5_joins_25 : decode cX5_joins 25 = .ok (.iastore, 1) := by decide +kernel
theorem dX5_joins_26 : decode cX5_joins 26 = .ok (.return_, 1) := by decide +kernel
theorem dX5_readPair_0 : decode cX5_readPair 0 = .ok (.aload_n 0, 1) := by decide +kernel
theorem dX5_readPair_1 : decode cX5_readPair 1 = .ok (.invokevirtual 93, 3) := by decide +kernel
theorem dX5_readPair_4 : decode cX5_readPair 4 = .ok (.aload_n 0, 1) := by decide +kernel
theorem dX5_readPair_5 : decode cX5_readPair 5 = .ok (.getfield 27, 3) := by decide +kernel
theorem dX5_readPair_8 : decode cX5_readPair 8 = .ok (.iconst 2, 1) := by decide +kernel
theorem dX5_readPair_9 : decode cX5_readPair 9 = .ok (.if_icmp .eq 9, 3) := by decide +kernel
theorem dX5_readPair_12 : decode cX5_readPair 12 = .ok (.aload_n 0, 1) := by decide +kernel
theorem dX5_readPair_13 : decode cX5_readPair 13 = .ok (.iconst 1, 1) := by decide +kernel
theorem dX5_readPair_14 : decode cX5_readPair 14 = .ok (.invokevirtual 96, 3) := by decide +kernel
theorem dX5_readPair_17 : decode cX5_readPair 17 = .ok (.ireturn, 1) := by decide +kernel
theorem dX5_readPair_18 : decode cX5_readPair 18 = .ok (.aload_n 0, 1) := by decide +kernel
theorem dX5_readPair_19 : decode cX5_readPair 19 = .ok (.invokevirtual 107, 3) := by decide +kernel
theorem dX5_readPair_22 : decode cX5_readPair 22 = .ok (.istore_n 1, 1) := by decide +kernel
theorem dX5_readPair_23 : decode cX5_readPair 23 = .ok (.iload_n 1, 1) := by decide +kernel
