theorem dX5_readPair_24 : decode cX5_readPair 24 = .ok (.iconst (-1), 1) := by decide +kernel
theorem dX5_readPair_25 : decode cX5_readPair 25 = .ok (.if_icmp .eq 11, 3) := by decide +kernel
theorem dX5_readPair_28 : decode cX5_readPair 28 = .ok (.iload_n 1, 1) := by decide +kernel
theorem dX5_readPair_29 : decode cX5_readPair 29 = .ok (.invokestatic 111, 3) := by decide +kernel
theorem dX5_readPair_32 : decode cX5_readPair 32 = .ok (.iconst 2, 1) := by decide +kernel
theorem dX5_readPair_33 : decode cX5_readPair 33 = .ok (.if_icmp .eq 9, 3) := by decide +kernel
theorem dX5_readPair_36 : decode cX5_readPair 36 = .ok (.aload_n 0, 1) := by decide +kernel
theorem dX5_readPair_37 : decode cX5_readPair 37 = .ok (.iconst 3, 1) := by decide +kernel
theorem dX5_readPair_38 : decode cX5_readPair 38 = .ok (.invokevirtual 96, 3) := by decide +kernel
theorem dX5_readPair_41 : decode cX5_readPair 41 = .ok (.ireturn, 1) := by decide +kernel
theorem dX5_readPair_42 : decode cX5_readPair 42 = .ok (.iload_n 1, 1) := by decide +kernel
theorem dX5_readPair_43 : decode cX5_readPair 43 = .ok (.invokestatic 114, 3) := by decide +kernel
theorem dX5_readPair_46 : decode cX5_readPair 46 = .ok (.istore_n 2, 1) := by decide +kernel
theorem dX5_readPair_47 : decode cX5_readPair 47 = .ok (.iload_n 1, 1) := by decide +kernel
theorem dX5_readPair_48 : decode cX5_readPair 48 = .ok (.iconst 1, 1) := by decide +kernel
theorem dX5_readPair_49 : decode cX5_readPair 49 = .ok (.iload_n 2, 1) := by decide +kernel
theorem dX5_readPair_50 : decode cX5_readPair 50 = .ok (.ishl, 1) := by decide +kernel
theorem dX5_readPair_51 : decode cX5_readPair 51 = .ok (.iconst (-1), 1) := by decide +kernel
theorem dX5_readPair_52 : decode cX5_readPair 52 = .ok (.ixor, 1) := by decide +kernel
theorem dX5_readPair_53 : decode cX5_readPair 53 = .ok (.iand, 1) := by decide +kernel
theorem dX5_readPair_54 : decode cX5_readPair 54 = .ok (.invokestatic 114, 3) := by decide +kernel
theorem dX5_readPair_57 : decode cX5_readPair 57 = .ok (.istore_n 3, 1) := by decide +kernel
theorem dX5_readPair_58 : decode cX5_readPair 58 = .ok (.aload_n 0, 1) := by decide +kernel
theorem dX5_readPair_59 : decode cX5_readPair 59 = .ok (.getfield 59, 3) := by decide +kernel
theorem dX5_readPair_62 : decode cX5_readPair 62 = .ok (.sipush 257, 3) := by decide +kernel
theorem dX5_readPair_65 : decode cX5_readPair 65 = .ok (.iload_n 2, 1) := by decide +kernel
theorem dX5_readPair_66 : decode cX5_readPair 66 = .ok (.iadd, 1) := by decide +kernel
theorem dX5_readPair_67 : decode cX5_readPair 67 = .ok (.iaload, 1) := by decide +kernel
theorem dX5_readPair_68 : decode cX5_readPair 68 = .ok (.iload_n 3, 1) := by decide +kernel
theorem dX5_readPair_69 : decode cX5_readPair 69 = .ok (.invokestatic 103, 3) := by decide +kernel
theorem dX5_readPair_72 : decode cX5_readPair 72 = .ok (.ifCond .eq 9, 3) := by decide +kernel
theorem dX5_readPair_75 : decode cX5_readPair 75 = .ok (.aload_n 0, 1) := by decide +kernel
theorem dX5_readPair_76 : decode cX5_readPair 76 = .ok (.iconst 4, 1) := by decide +kernel
theorem dX5_readPair_77 : decode cX5_readPair 77 = .ok (.invokevirtual 96, 3) := by decide +kernel
theorem dX5_readPair_80 : decode cX5_readPair 80 = .ok (.ireturn, 1) := by decide +kernel
theorem dX5_readPair_81 : decode cX5_readPair 81 = .ok (.aload_n 0, 1) := by decide +kernel
theorem dX5_readPair_82 : decode cX5_readPair 82 = .ok (.getfield 59, 3) := by decide +kernel
theorem dX5_readPair_85 : decode cX5_readPair 85 = .ok (.iload_n 2, 1) := by decide +kernel
theorem dX5_readPair_86 : decode cX5_readPair 86 = .ok (.iload_n 3, 1) := by decide +kernel
theorem dX5_readPair_87 : decode cX5_readPair 87 = .ok (.invokestatic 117, 3) := by decide +kernel
theorem dX5_readPair_90 : decode cX5_readPair 90 = .ok (.aload_n 0, 1) := by decide +kernel
theorem dX5_readPair_91 : decode cX5_readPair 91 = .ok (.invokevirtual 93, 3) := by decide +kernel
theorem dX5_readPair_94 : decode cX5_readPair 94 = .ok (.iconst 1, 1) := by decide +kernel
theorem dX5_readPair_95 : decode cX5_readPair 95 = .ok (.ireturn, 1) := by decide +kernel
theorem dX5_readLine_0 : decode cX5_readLine 0 = .ok (.aload_n 0, 1) := by decide +kernel
theorem dX5_readLine_1 : decode cX5_readLine 1 = .ok (.getfield 59, 3) := by decide +kernel
theorem dX5_readLine_4 : decode cX5_readLine 4 = .ok (.iconst 0, 1) := by decide +kernel
theorem dX5_readLine_5 : decode cX5_readLine 5 = .ok (.iaload, 1) := by decide +kernel
theorem dX5_readLine_6 : decode cX5_readLine 6 = .ok (.ifCond .ne 35, 3) := by decide +kernel
theorem dX5_readLine_9 : decode cX5_readLine 9 = .ok (.aload_n 0, 1) := by decide +kernel
theorem dX5_readLine_10 : decode cX5_readLine 10 = .ok (.bipush 116, 2) := by decide +kernel
theorem dX5_readLine_12 : decode cX5_readLine 12 = .ok (.bipush 104, 2) := by decide +kernel
theorem dX5_readLine_14 : decode cX5_readLine 14 = .ok (.bipush 105, 2) := by decide +kernel
theorem dX5_readLine_16 : decode cX5_readLine 16 = .ok (.bipush 110, 2) := by decide +kernel
theorem dX5_readLine_18 : decode cX5_readLine 18 = .ok (.bipush 103, 2) := by decide +kernel
theorem dX5_readLine_20 : decode cX5_readLine 20 = .ok (.bipush 115, 2) := by decide +kernel
theorem dX5_readLine_22 : decode cX5_readLine 22 = .ok (.invokevirtual 121, 3) := by decide +kernel
theorem dX5_readLine_25 : decode cX5_readLine 25 = .ok (.ifCond .eq 10, 3) := by decide +kernel
theorem dX5_readLine_28 : decode cX5_readLine 28 = .ok (.aload_n 0, 1) := by decide +kernel
theorem dX5_readLine_29 : decode cX5_readLine 29 = .ok (.invokevirtual 125, 3) := by decide +kernel
theorem dX5_readLine_32 : decode cX5_readLine 32 = .ok (.goto 8, 3) := by decide +kernel
theorem dX5_readLine_35 : decode cX5_readLine 35 = .ok (.aload_n 0, 1) := by decide +kernel
theorem dX5_readLine_36 : decode cX5_readLine 36 = .ok (.iconst 1, 1) := by decide +kernel
theorem dX5_readLine_37 : decode cX5_readLine 37 = .ok (.invokevirtual 96, 3) := by decide +kernel
theorem dX5_readLine_40 : decode cX5_readLine 40 = .ok (.ireturn, 1) := by decide +kernel
theorem dX5_readLine_41 : decode cX5_readLine 41 = .ok (.aload_n 0, 1) := by decide +kernel
theorem dX5_readLine_42 : decode cX5_readLine 42 = .ok (.bipush 115, 2) := by decide +kernel
theorem dX5_readLine_44 : decode cX5_readLine 44 = .ok (.bipush 101, 2) := by decide +kernel
theorem dX5_readLine_46 : decode cX5_readLine 46 = .ok (.bipush 116, 2) := by decide +kernel
theorem dX5_readLine_48 : decode cX5_readLine 48 = .ok (.iconst 0, 1) := by decide +kernel
theorem dX5_readLine_49 : decode cX5_readLine 49 = .ok (.iconst 0, 1) := by decide +kernel
theorem dX5_readLine_50 : decode cX5_readLine 50 = .ok (.iconst 0, 1) := by decide +kernel
theorem dX5_readLine_51 : decode cX5_readLine 51 = .ok (.invokevirtual 121, 3) := by decide +kernel
theorem dX5_readLine_54 : decode cX5_readLine 54 = .ok (.ifCond .eq 8, 3) := by decide +kernel
theorem dX5_readLine_57 : decode cX5_readLine 57 = .ok (.aload_n 0, 1) := by decide +kernel
theorem dX5_readLine_58 : decode cX5_readLine 58 = .ok (.invokevirtual 129, 3) := by decide +kernel
theorem dX5_readLine_61 : decode cX5_readLine 61 = .ok (.ireturn, 1) := by decide +kernel
theorem dX5_readLine_62 : decode cX5_readLine 62 = .ok (.aload_n 0, 1) := by decide +kernel
theorem dX5_readLine_63 : decode cX5_readLine 63 = .ok (.bipush 112, 2) := by decide +kernel
theorem dX5_readLine_65 : decode cX5_readLine 65 = .ok (.bipush 97, 2) := by decide +kernel
theorem dX5_readLine_67 : decode cX5_readLine 67 = .ok (.bipush 105, 2) := by decide +kernel
theorem dX5_readLine_69 : decode cX5_readLine 69 = .ok (.bipush 114, 2) := by decide +kernel
theorem dX5_readLine_71 : decode cX5_readLine 71 = .ok (.iconst 0, 1) := by decide +kernel
theorem dX5_readLine_72 : decode cX5_readLine 72 = .ok (.iconst 0, 1) := by decide +kernel
theorem dX5_readLine_73 : decode cX5_readLine 73 = .ok (.invokevirtual 121, 3) := by decide +kernel
theorem dX5_readLine_76 : decode cX5_readLine 76 = .ok (.ifCond .eq 10, 3) := by decide +kernel
theorem dX5_readLine_79 : decode cX5_readLine 79 = .ok (.aload_n 0, 1) := by decide +kernel
theorem dX5_readLine_80 : decode cX5_readLine 80 = .ok (.invokevirtual 132, 3) := by decide +kernel
theorem dX5_readLine_83 : decode cX5_readLine 83 = .ok (.goto 8, 3) := by decide +kernel
theorem dX5_readLine_86 : decode cX5_readLine 86 = .ok (.aload_n 0, 1) := by decide +kernel
theorem dX5_readLine_87 : decode cX5_readLine 87 = .ok (.iconst 1, 1) := by decide +kernel
theorem dX5_readLine_88 : decode cX5_readLine 88 = .ok (.invokevirtual 96, 3) := by decide +kernel
theorem dX5_readLine_91 : decode cX5_readLine 91 = .ok (.ireturn, 1) := by decide +kernel
theorem dX5_readEnd_0 : decode cX5_readEnd 0 = .ok (.aload_n 0, 1) := by decide +kernel
theorem dX5_readEnd_1 : decode cX5_readEnd 1 = .ok (.getfield 27, 3) := by decide +kernel
theorem dX5_readEnd_4 : decode cX5_readEnd 4 = .ok (.iconst 4, 1) := by decide +kernel
theorem dX5_readEnd_5 : decode cX5_readEnd 5 = .ok (.if_icmp .eq 9, 3) := by decide +kernel
theorem dX5_readEnd_8 : decode cX5_readEnd 8 = .ok (.aload_n 0, 1) := by decide +kernel
theorem dX5_readEnd_9 : decode cX5_readEnd 9 = .ok (.iconst 1, 1) := by decide +kernel
theorem dX5_readEnd_10 : decode cX5_readEnd 10 = .ok (.invokevirtual 96, 3) := by decide +kernel
theorem dX5_readEnd_13 : decode cX5_readEnd 13 = .ok (.ireturn, 1) := by decide +kernel
theorem dX5_readEnd_14 : decode cX5_readEnd 14 = .ok (.aload_n 0, 1) := by decide +kernel
theorem dX5_readEnd_15 : decode cX5_readEnd 15 = .ok (.invokevirtual 93, 3) := by decide +kernel
theorem dX5_readEnd_18 : decode cX5_readEnd 18 = .ok (.iconst 1, 1) := by decide +kernel
theorem dX5_readEnd_19 : decode cX5_readEnd 19 = .ok (.ireturn, 1) := by decide +kernel
theorem dX5_text_0 : decode cX5_text 0 = .ok (.aload_n 0, 1) := by decide +kernel
theorem dX5_text_1 : decode cX5_text 1 = .ok (.iconst 0, 1) := by decide +kernel
theorem dX5_text_2 : decode cX5_text 2 = .ok (.putfield 1, 3) := by decide +kernel
theorem dX5_text_5 : decode cX5_text 5 = .ok (.aload_n 0, 1) := by decide +kernel
theorem dX5_text_6 : decode cX5_text 6 = .ok (.aload_n 0, 1) := by decide +kernel
theorem dX5_text_7 : decode cX5_text 7 = .ok (.getfield 11, 3) := by decide +kernel
theorem dX5_text_10 : decode cX5_text 10 = .ok (.putfield 18, 3) := by decide +kernel
theorem dX5_text_13 : decode cX5_text 13 = .ok (.aload_n 0, 1) := by decide +kernel
theorem dX5_text_14 : decode cX5_text 14 = .ok (.iconst 0, 1) := by decide +kernel
theorem dX5_text_15 : decode cX5_text 15 = .ok (.putfield 11, 3) := by decide +kernel
theorem dX5_text_18 : decode cX5_text 18 = .ok (.aload_n 0, 1) := by decide +kernel
theorem dX5_text_19 : decode cX5_text 19 = .ok (.iconst 0, 1) := by decide +kernel
theorem dX5_text_20 : decode cX5_text 20 = .ok (.putfield 44, 3) := by decide +kernel
theorem dX5_text_23 : decode cX5_text 23 = .ok (.aload_n 0, 1) := by decide +kernel
theorem dX5_text_24 : decode cX5_text 24 = .ok (.iconst 0, 1) := by decide +kernel
theorem dX5_text_25 : decode cX5_text 25 = .ok (.putfield 21, 3) := by decide +kernel
theorem dX5_text_28 : decode cX5_text 28 = .ok (.iconst 0, 1) := by decide +kernel
theorem dX5_text_29 : decode cX5_text 29 = .ok (.istore_n 1, 1) := by decide +kernel
theorem dX5_text_30 : decode cX5_text 30 = .ok (.iconst 0, 1) := by decide +kernel
theorem dX5_text_31 : decode cX5_text 31 = .ok (.istore_n 2, 1) := by decide +kernel
theorem dX5_text_32 : decode cX5_text 32 = .ok (.iload_n 2, 1) := by decide +kernel
theorem dX5_text_33 : decode cX5_text 33 = .ok (.sipush 1289, 3) := by decide +kernel
theorem dX5_text_36 : decode cX5_text 36 = .ok (.if_icmp .ge 16, 3) := by decide +kernel
theorem dX5_text_39 : decode cX5_text 39 = .ok (.aload_n 0, 1) := by decide +kernel
theorem dX5_text_40 : decode cX5_text 40 = .ok (.getfield 59, 3) := by decide +kernel
theorem dX5_text_43 : decode cX5_text 43 = .ok (.iload_n 2, 1) := by decide +kernel
theorem dX5_text_44 : decode cX5_text 44 = .ok (.iconst 0, 1) := by decide +kernel
theorem dX5_text_45 : decode cX5_text 45 = .ok (.iastore, 1) := by decide +kernel
theorem dX5_text_46 : decode cX5_text 46 = .ok (.iinc 2 1, 3) := by decide +kernel
theorem dX5_text_49 : decode cX5_text 49 = .ok (.goto (-17), 3) := by decide +kernel
theorem dX5_text_52 : decode cX5_text 52 = .ok (.aload_n 0, 1) := by decide +kernel
theorem dX5_text_53 : decode cX5_text 53 = .ok (.invokevirtual 93, 3) := by decide +kernel
theorem dX5_text_56 : decode cX5_text 56 = .ok (.aload_n 0, 1) := by decide +kernel
theorem dX5_text_57 : decode cX5_text 57 = .ok (.getfield 27, 3) := by decide +kernel
theorem dX5_text_60 : decode cX5_text 60 = .ok (.ifCond .eq 30, 3) := by decide +kernel
theorem dX5_text_63 : decode cX5_text 63 = .ok (.aload_n 0, 1) := by decide +kernel
theorem dX5_text_64 : decode cX5_text 64 = .ok (.invokevirtual 135, 3) := by decide +kernel
theorem dX5_text_67 : decode cX5_text 67 = .ok (.ifCond .eq 10, 3) := by decide +kernel
theorem dX5_text_70 : decode cX5_text 70 = .ok (.aload_n 0, 1) := by decide +kernel
theorem dX5_text_71 : decode cX5_text 71 = .ok (.invokevirtual 138, 3) := by decide +kernel
theorem dX5_text_74 : decode cX5_text 74 = .ok (.ifCond .ne 10, 3) := by decide +kernel
theorem dX5_text_77 : decode cX5_text 77 = .ok (.iconst (-1), 1) := by decide +kernel
theorem dX5_text_78 : decode cX5_text 78 = .ok (.aload_n 0, 1) := by decide +kernel
theorem dX5_text_79 : decode cX5_text 79 = .ok (.getfield 47, 3) := by decide +kernel
theorem dX5_text_82 : decode cX5_text 82 = .ok (.isub, 1) := by decide +kernel
theorem dX5_text_83 : decode cX5_text 83 = .ok (.ireturn, 1) := by decide +kernel
theorem dX5_text_84 : decode cX5_text 84 = .ok (.iinc 1 1, 3) := by decide +kernel
theorem dX5_text_87 : decode cX5_text 87 = .ok (.goto (-31), 3) := by decide +kernel
theorem dX5_text_90 : decode cX5_text 90 = .ok (.aload_n 0, 1) := by decide +kernel
theorem dX5_text_91 : decode cX5_text 91 = .ok (.getfield 59, 3) := by decide +kernel
theorem dX5_text_94 : decode cX5_text 94 = .ok (.iconst 0, 1) := by decide +kernel
theorem dX5_text_95 : decode cX5_text 95 = .ok (.aload_n 0, 1) := by decide +kernel
theorem dX5_text_96 : decode cX5_text 96 = .ok (.getfield 56, 3) := by decide +kernel
theorem dX5_text_99 : decode cX5_text 99 = .ok (.iconst 0, 1) := by decide +kernel
theorem dX5_text_100 : decode cX5_text 100 = .ok (.invokestatic 141, 3) := by decide +kernel
theorem dX5_text_103 : decode cX5_text 103 = .ok (.aload_n 0, 1) := by decide +kernel
theorem dX5_text_104 : decode cX5_text 104 = .ok (.iconst 0, 1) := by decide +kernel
theorem dX5_text_105 : decode cX5_text 105 = .ok (.putfield 145, 3) := by decide +kernel
theorem dX5_text_108 : decode cX5_text 108 = .ok (.iload_n 1, 1) := by decide +kernel
theorem dX5_text_109 : decode cX5_text 109 = .ok (.ireturn, 1) := by decide +kernel
theorem dX5_fault_0 : decode cX5_fault 0 = .ok (.aload_n 0, 1) := by decide +kernel
theorem dX5_fault_1 : decode cX5_fault 1 = .ok (.iconst 0, 1) := by decide +kernel
theorem dX5_fault_2 : decode cX5_fault 2 = .ok (.putfield 1, 3) := by decide +kernel
theorem dX5_fault_5 : decode cX5_fault 5 = .ok (.aload_n 0, 1) := by decide +kernel
theorem dX5_fault_6 : decode cX5_fault 6 = .ok (.getfield 44, 3) := by decide +kernel
theorem dX5_fault_9 : decode cX5_fault 9 = .ok (.ireturn, 1) := by decide +kernel
theorem dX5_things_0 : decode cX5_things 0 = .ok (.aload_n 0, 1) := by decide +kernel
theorem dX5_things_1 : decode cX5_things 1 = .ok (.getfield 56, 3) := by decide +kernel
theorem dX5_things_4 : decode cX5_things 4 = .ok (.iconst 0, 1) := by decide +kernel
theorem dX5_things_5 : decode cX5_things 5 = .ok (.iaload, 1) := by decide +kernel
theorem dX5_things_6 : decode cX5_things 6 = .ok (.ireturn, 1) := by decide +kernel
theorem dX5_all_0 : decode cX5_all 0 = .ok (.iconst 1, 1) := by decide +kernel
theorem dX5_all_1 : decode cX5_all 1 = .ok (.aload_n 0, 1) := by decide +kernel
theorem dX5_all_2 : decode cX5_all 2 = .ok (.invokevirtual 148, 3) := by decide +kernel
theorem dX5_all_5 : decode cX5_all 5 = .ok (.ishl, 1) := by decide +kernel
theorem dX5_all_6 : decode cX5_all 6 = .ok (.iconst 1, 1) := by decide +kernel
theorem dX5_all_7 : decode cX5_all 7 = .ok (.isub, 1) := by decide +kernel
theorem dX5_all_8 : decode cX5_all 8 = .ok (.ireturn, 1) := by decide +kernel
theorem dX5_isSet_0 : decode cX5_isSet 0 = .ok (.aload_n 0, 1) := by decide +kernel
theorem dX5_isSet_1 : decode cX5_isSet 1 = .ok (.invokevirtual 148, 3) := by decide +kernel
theorem dX5_isSet_4 : decode cX5_isSet 4 = .ok (.ifCond .le 19, 3) := by decide +kernel
theorem dX5_isSet_7 : decode cX5_isSet 7 = .ok (.iload_n 1, 1) := by decide +kernel
theorem dX5_isSet_8 : decode cX5_isSet 8 = .ok (.iconst 0, 1) := by decide +kernel
theorem dX5_isSet_9 : decode cX5_isSet 9 = .ok (.aload_n 0, 1) := by decide +kernel
theorem dX5_isSet_10 : decode cX5_isSet 10 = .ok (.invokevirtual 151, 3) := by decide +kernel
theorem dX5_isSet_13 : decode cX5_isSet 13 = .ok (.invokestatic 99, 3) := by decide +kernel
theorem dX5_isSet_16 : decode cX5_isSet 16 = .ok (.ifCond .eq 7, 3) := by decide +kernel
theorem dX5_isSet_19 : decode cX5_isSet 19 = .ok (.iconst 1, 1) := by decide +kernel
theorem dX5_isSet_20 : decode cX5_isSet 20 = .ok (.goto 4, 3) := by decide +kernel
theorem dX5_isSet_23 : decode cX5_isSet 23 = .ok (.iconst 0, 1) := by decide +kernel
theorem dX5_isSet_24 : decode cX5_isSet 24 = .ok (.ireturn, 1) := by decide +kernel
theorem dX5_isThing_0 : decode cX5_isThing 0 = .ok (.iload_n 1, 1) := by decide +kernel
theorem dX5_isThing_1 : decode cX5_isThing 1 = .ok (.iconst 0, 1) := by decide +kernel
theorem dX5_isThing_2 : decode cX5_isThing 2 = .ok (.aload_n 0, 1) := by decide +kernel
theorem dX5_isThing_3 : decode cX5_isThing 3 = .ok (.invokevirtual 148, 3) := by decide +kernel
theorem dX5_isThing_6 : decode cX5_isThing 6 = .ok (.iconst 1, 1) := by decide +kernel
theorem dX5_isThing_7 : decode cX5_isThing 7 = .ok (.isub, 1) := by decide +kernel
theorem dX5_isThing_8 : decode cX5_isThing 8 = .ok (.invokestatic 99, 3) := by decide +kernel
theorem dX5_isThing_11 : decode cX5_isThing 11 = .ok (.ireturn, 1) := by decide +kernel
theorem dX5_isRow_0 : decode cX5_isRow 0 = .ok (.aload_n 0, 1) := by decide +kernel
theorem dX5_isRow_1 : decode cX5_isRow 1 = .ok (.invokevirtual 148, 3) := by decide +kernel
theorem dX5_isRow_4 : decode cX5_isRow 4 = .ok (.ifCond .le 16, 3) := by decide +kernel
theorem dX5_isRow_7 : decode cX5_isRow 7 = .ok (.iload_n 1, 1) := by decide +kernel
theorem dX5_isRow_8 : decode cX5_isRow 8 = .ok (.iconst 0, 1) := by decide +kernel
theorem dX5_isRow_9 : decode cX5_isRow 9 = .ok (.iconst 3, 1) := by decide +kernel
theorem dX5_isRow_10 : decode cX5_isRow 10 = .ok (.invokestatic 99, 3) := by decide +kernel
theorem dX5_isRow_13 : decode cX5_isRow 13 = .ok (.ifCond .eq 7, 3) := by decide +kernel
theorem dX5_isRow_16 : decode cX5_isRow 16 = .ok (.iconst 1, 1) := by decide +kernel
theorem dX5_isRow_17 : decode cX5_isRow 17 = .ok (.goto 4, 3) := by decide +kernel
theorem dX5_isRow_20 : decode cX5_isRow 20 = .ok (.iconst 0, 1) := by decide +kernel
theorem dX5_isRow_21 : decode cX5_isRow 21 = .ok (.ireturn, 1) := by decide +kernel
theorem dX5_told_0 : decode cX5_told 0 = .ok (.iconst 0, 1) := by decide +kernel
theorem dX5_told_1 : decode cX5_told 1 = .ok (.istore_n 1, 1) := by decide +kernel
theorem dX5_told_2 : decode cX5_told 2 = .ok (.iconst 0, 1) := by decide +kernel
theorem dX5_told_3 : decode cX5_told 3 = .ok (.istore_n 2, 1) := by decide +kernel
theorem dX5_told_4 : decode cX5_told 4 = .ok (.iload_n 2, 1) := by decide +kernel
theorem dX5_told_5 : decode cX5_told 5 = .ok (.sipush 256, 3) := by decide +kernel
theorem dX5_told_8 : decode cX5_told 8 = .ok (.if_icmp .ge 23, 3) := by decide +kernel
theorem dX5_told_11 : decode cX5_told 11 = .ok (.aload_n 0, 1) := by decide +kernel
theorem dX5_told_12 : decode cX5_told 12 = .ok (.getfield 56, 3) := by decide +kernel
theorem dX5_told_15 : decode cX5_told 15 = .ok (.iconst 1, 1) := by decide +kernel
theorem dX5_told_16 : decode cX5_told 16 = .ok (.iload_n 2, 1) := by decide +kernel
theorem dX5_told_17 : decode cX5_told 17 = .ok (.iadd, 1) := by decide +kernel
theorem dX5_told_18 : decode cX5_told 18 = .ok (.iaload, 1) := by decide +kernel
theorem dX5_told_19 : decode cX5_told 19 = .ok (.ifCond .le 6, 3) := by decide +kernel
theorem dX5_told_22 : decode cX5_told 22 = .ok (.iinc 1 1, 3) := by decide +kernel
theorem dX5_told_25 : decode cX5_told 25 = .ok (.iinc 2 1, 3) := by decide +kernel
theorem dX5_told_28 : decode cX5_told 28 = .ok (.goto (-24), 3) := by decide +kernel
theorem dX5_told_31 : decode cX5_told 31 = .ok (.iload_n 1, 1) := by decide +kernel
theorem dX5_told_32 : decode cX5_told 32 = .ok (.ireturn, 1) := by decide +kernel
theorem dX5_pairsIn_0 : decode cX5_pairsIn 0 = .ok (.iconst 0, 1) := by decide +kernel
theorem dX5_pairsIn_1 : decode cX5_pairsIn 1 = .ok (.istore_n 2, 1) := by decide +kernel
theorem dX5_pairsIn_2 : decode cX5_pairsIn 2 = .ok (.iconst 0, 1) := by decide +kernel
theorem dX5_pairsIn_3 : decode cX5_pairsIn 3 = .ok (.istore_n 3, 1) := by decide +kernel
theorem dX5_pairsIn_4 : decode cX5_pairsIn 4 = .ok (.iload_n 3, 1) := by decide +kernel
theorem dX5_pairsIn_5 : decode cX5_pairsIn 5 = .ok (.aload_n 0, 1) := by decide +kernel
theorem dX5_pairsIn_6 : decode cX5_pairsIn 6 = .ok (.invokevirtual 148, 3) := by decide +kernel
theorem dX5_pairsIn_9 : decode cX5_pairsIn 9 = .ok (.if_icmp .ge 35, 3) := by decide +kernel
theorem dX5_pairsIn_12 : decode cX5_pairsIn 12 = .ok (.iload_n 1, 1) := by decide +kernel
theorem dX5_pairsIn_13 : decode cX5_pairsIn 13 = .ok (.iload_n 3, 1) := by decide +kernel
theorem dX5_pairsIn_14 : decode cX5_pairsIn 14 = .ok (.invokestatic 103, 3) := by decide +kernel
theorem dX5_pairsIn_17 : decode cX5_pairsIn 17 = .ok (.ifCond .eq 21, 3) := by decide +kernel
theorem dX5_pairsIn_20 : decode cX5_pairsIn 20 = .ok (.iload_n 2, 1) := by decide +kernel
theorem dX5_pairsIn_21 : decode cX5_pairsIn 21 = .ok (.aload_n 0, 1) := by decide +kernel
theorem dX5_pairsIn_22 : decode cX5_pairsIn 22 = .ok (.getfield 56, 3) := by decide +kernel
theorem dX5_pairsIn_25 : decode cX5_pairsIn 25 = .ok (.sipush 257, 3) := by decide +kernel
theorem dX5_pairsIn_28 : decode cX5_pairsIn 28 = .ok (.iload_n 3, 1) := by decide +kernel
theorem dX5_pairsIn_29 : decode cX5_pairsIn 29 = .ok (.iadd, 1) := by decide +kernel
theorem dX5_pairsIn_30 : decode cX5_pairsIn 30 = .ok (.iaload, 1) := by decide +kernel
theorem dX5_pairsIn_31 : decode cX5_pairsIn 31 = .ok (.iload_n 1, 1) := by decide +kernel
theorem dX5_pairsIn_32 : decode cX5_pairsIn 32 = .ok (.iand, 1) := by decide +kernel
theorem dX5_pairsIn_33 : decode cX5_pairsIn 33 = .ok (.invokestatic 111, 3) := by decide +kernel
theorem dX5_pairsIn_36 : decode cX5_pairsIn 36 = .ok (.iadd, 1) := by decide +kernel
theorem dX5_pairsIn_37 : decode cX5_pairsIn 37 = .ok (.istore_n 2, 1) := by decide +kernel
theorem dX5_pairsIn_38 : decode cX5_pairsIn 38 = .ok (.iinc 3 1, 3) := by decide +kernel
theorem dX5_pairsIn_41 : decode cX5_pairsIn 41 = .ok (.goto (-37), 3) := by decide +kernel
theorem dX5_pairsIn_44 : decode cX5_pairsIn 44 = .ok (.iload_n 2, 1) := by decide +kernel
theorem dX5_pairsIn_45 : decode cX5_pairsIn 45 = .ok (.iconst 2, 1) := by decide +kernel
theorem dX5_pairsIn_46 : decode cX5_pairsIn 46 = .ok (.idiv, 1) := by decide +kernel
theorem dX5_pairsIn_47 : decode cX5_pairsIn 47 = .ok (.ireturn, 1) := by decide +kernel
theorem dX5_now_0 : decode cX5_now 0 = .ok (.aload_n 0, 1) := by decide +kernel
theorem dX5_now_1 : decode cX5_now 1 = .ok (.iconst 0, 1) := by decide +kernel
theorem dX5_now_2 : decode cX5_now 2 = .ok (.putfield 1, 3) := by decide +kernel
theorem dX5_now_5 : decode cX5_now 5 = .ok (.iload_n 1, 1) := by decide +kernel
theorem dX5_now_6 : decode cX5_now 6 = .ok (.tableswitch 63 0 4 #[34, 39, 44, 53, 58], 34) := by decide +kernel
theorem dX5_now_40 : decode cX5_now 40 = .ok (.aload_n 0, 1) := by decide +kernel
theorem dX5_now_41 : decode cX5_now 41 = .ok (.invokevirtual 148, 3) := by decide +kernel
theorem dX5_now_44 : decode cX5_now 44 = .ok (.ireturn, 1) := by decide +kernel
theorem dX5_now_45 : decode cX5_now 45 = .ok (.aload_n 0, 1) := by decide +kernel
theorem dX5_now_46 : decode cX5_now 46 = .ok (.invokevirtual 154, 3) := by decide +kernel
theorem dX5_now_49 : decode cX5_now 49 = .ok (.ireturn, 1) := by decide +kernel
theorem dX5_now_50 : decode cX5_now 50 = .ok (.aload_n 0, 1) := by decide +kernel
theorem dX5_now_51 : decode cX5_now 51 = .ok (.aload_n 0, 1) := by decide +kernel
theorem dX5_now_52 : decode cX5_now 52 = .ok (.invokevirtual 151, 3) := by decide +kernel
theorem dX5_now_55 : decode cX5_now 55 = .ok (.invokevirtual 157, 3) := by decide +kernel
theorem dX5_now_58 : decode cX5_now 58 = .ok (.ireturn, 1) := by decide +kernel
theorem dX5_now_59 : decode cX5_now 59 = .ok (.aload_n 0, 1) := by decide +kernel
theorem dX5_now_60 : decode cX5_now 60 = .ok (.getfield 145, 3) := by decide +kernel
theorem dX5_now_63 : decode cX5_now 63 = .ok (.ireturn, 1) := by decide +kernel
theorem dX5_now_64 : decode cX5_now 64 = .ok (.aload_n 0, 1) := by decide +kernel
theorem dX5_now_65 : decode cX5_now 65 = .ok (.getfield 11, 3) := by decide +kernel
theorem dX5_now_68 : decode cX5_now 68 = .ok (.ireturn, 1) := by decide +kernel
theorem dX5_now_69 : decode cX5_now 69 = .ok (.iconst (-1), 1) := by decide +kernel
theorem dX5_now_70 : decode cX5_now 70 = .ok (.ireturn, 1) := by decide +kernel
theorem dX5_weight_0 : decode cX5_weight 0 = .ok (.aload_n 0, 1) := by decide +kernel
theorem dX5_weight_1 : decode cX5_weight 1 = .ok (.iconst 0, 1) := by decide +kernel
theorem dX5_weight_2 : decode cX5_weight 2 = .ok (.putfield 1, 3) := by decide +kernel
theorem dX5_weight_5 : decode cX5_weight 5 = .ok (.aload_n 0, 1) := by decide +kernel
theorem dX5_weight_6 : decode cX5_weight 6 = .ok (.iload_n 1, 1) := by decide +kernel
theorem dX5_weight_7 : decode cX5_weight 7 = .ok (.invokevirtual 160, 3) := by decide +kernel
theorem dX5_weight_10 : decode cX5_weight 10 = .ok (.ifCond .eq 14, 3) := by decide +kernel
theorem dX5_weight_13 : decode cX5_weight 13 = .ok (.aload_n 0, 1) := by decide +kernel
theorem dX5_weight_14 : decode cX5_weight 14 = .ok (.getfield 56, 3) := by decide +kernel
theorem dX5_weight_17 : decode cX5_weight 17 = .ok (.iconst 1, 1) := by decide +kernel
theorem dX5_weight_18 : decode cX5_weight 18 = .ok (.iload_n 1, 1) := by decide +kernel
theorem dX5_weight_19 : decode cX5_weight 19 = .ok (.iadd, 1) := by decide +kernel
theorem dX5_weight_20 : decode cX5_weight 20 = .ok (.iaload, 1) := by decide +kernel
theorem dX5_weight_21 : decode cX5_weight 21 = .ok (.goto 4, 3) := by decide +kernel
theorem dX5_weight_24 : decode cX5_weight 24 = .ok (.iconst (-1), 1) := by decide +kernel
theorem dX5_weight_25 : decode cX5_weight 25 = .ok (.ireturn, 1) := by decide +kernel
theorem dX5_joined_0 : decode cX5_joined 0 = .ok (.aload_n 0, 1) := by decide +kernel
theorem dX5_joined_1 : decode cX5_joined 1 = .ok (.iconst 0, 1) := by decide +kernel
theorem dX5_joined_2 : decode cX5_joined 2 = .ok (.putfield 1, 3) := by decide +kernel
theorem dX5_joined_5 : decode cX5_joined 5 = .ok (.aload_n 0, 1) := by decide +kernel
theorem dX5_joined_6 : decode cX5_joined 6 = .ok (.iload_n 1, 1) := by decide +kernel
theorem dX5_joined_7 : decode cX5_joined 7 = .ok (.invokevirtual 163, 3) := by decide +kernel
theorem dX5_joined_10 : decode cX5_joined 10 = .ok (.ifCond .eq 16, 3) := by decide +kernel
theorem dX5_joined_13 : decode cX5_joined 13 = .ok (.aload_n 0, 1) := by decide +kernel
theorem dX5_joined_14 : decode cX5_joined 14 = .ok (.getfield 56, 3) := by decide +kernel
theorem dX5_joined_17 : decode cX5_joined 17 = .ok (.sipush 257, 3) := by decide +kernel
theorem dX5_joined_20 : decode cX5_joined 20 = .ok (.iload_n 1, 1) := by decide +kernel
theorem dX5_joined_21 : decode cX5_joined 21 = .ok (.iadd, 1) := by decide +kernel
theorem dX5_joined_22 : decode cX5_joined 22 = .ok (.iaload, 1) := by decide +kernel
theorem dX5_joined_23 : decode cX5_joined 23 = .ok (.goto 4, 3) := by decide +kernel
theorem dX5_joined_26 : decode cX5_joined 26 = .ok (.iconst (-1), 1) := by decide +kernel
theorem dX5_joined_27 : decode cX5_joined 27 = .ok (.ireturn, 1) := by decide +kernel
theorem dX5_numberOf_0 : decode cX5_numberOf 0 = .ok (.aload_n 0, 1) := by decide +kernel
theorem dX5_numberOf_1 : decode cX5_numberOf 1 = .ok (.getfield 56, 3) := by decide +kernel
theorem dX5_numberOf_4 : decode cX5_numberOf 4 = .ok (.sipush 265, 3) := by decide +kernel
theorem dX5_numberOf_7 : decode cX5_numberOf 7 = .ok (.sipush 256, 3) := by decide +kernel
theorem dX5_numberOf_10 : decode cX5_numberOf 10 = .ok (.iload_n 1, 1) := by decide +kernel
theorem dX5_numberOf_11 : decode cX5_numberOf 11 = .ok (.imul, 1) := by decide +kernel
theorem dX5_numberOf_12 : decode cX5_numberOf 12 = .ok (.iadd, 1) := by decide +kernel
theorem dX5_numberOf_13 : decode cX5_numberOf 13 = .ok (.iload_n 2, 1) := by decide +kernel
theorem dX5_numberOf_14 : decode cX5_numberOf 14 = .ok (.iadd, 1) := by decide +kernel
theorem dX5_numberOf_15 : decode cX5_numberOf 15 = .ok (.iaload, 1) := by decide +kernel
theorem dX5_numberOf_16 : decode cX5_numberOf 16 = .ok (.ireturn, 1) := by decide +kernel
theorem dX5_rest_0 : decode cX5_rest 0 = .ok (.lload_n 0, 1) := by decide +kernel
theorem dX5_rest_1 : decode cX5_rest 1 = .ok (.ldc2_w 166, 3) := by decide +kernel
theorem dX5_rest_4 : decode cX5_rest 4 = .ok (.lrem, 1) := by decide +kernel
theorem dX5_rest_5 : decode cX5_rest 5 = .ok (.lstore_n 2, 1) := by decide +kernel
theorem dX5_rest_6 : decode cX5_rest 6 = .ok (.lload_n 2, 1) := by decide +kernel
theorem dX5_rest_7 : decode cX5_rest 7 = .ok (.lconst 0, 1) := by decide +kernel
theorem dX5_rest_8 : decode cX5_rest 8 = .ok (.lcmp, 1) := by decide +kernel
theorem dX5_rest_9 : decode cX5_rest 9 = .ok (.ifCond .ge 11, 3) := by decide +kernel
theorem dX5_rest_12 : decode cX5_rest 12 = .ok (.lload_n 2, 1) := by decide +kernel
theorem dX5_rest_13 : decode cX5_rest 13 = .ok (.ldc2_w 166, 3) := by decide +kernel
theorem dX5_rest_16 : decode cX5_rest 16 = .ok (.ladd, 1) := by decide +kernel
theorem dX5_rest_17 : decode cX5_rest 17 = .ok (.goto 4, 3) := by decide +kernel
theorem dX5_rest_20 : decode cX5_rest 20 = .ok (.lload_n 2, 1) := by decide +kernel
theorem dX5_rest_21 : decode cX5_rest 21 = .ok (.l2i, 1) := by decide +kernel
theorem dX5_rest_22 : decode cX5_rest 22 = .ok (.ireturn, 1) := by decide +kernel
theorem dX5_snap_0 : decode cX5_snap 0 = .ok (.aload_n 0, 1) := by decide +kernel
theorem dX5_snap_1 : decode cX5_snap 1 = .ok (.getfield 145, 3) := by decide +kernel
theorem dX5_snap_4 : decode cX5_snap 4 = .ok (.bipush 8, 2) := by decide +kernel
theorem dX5_snap_6 : decode cX5_snap 6 = .ok (.if_icmp .ne 44, 3) := by decide +kernel
theorem dX5_snap_9 : decode cX5_snap 9 = .ok (.iconst 0, 1) := by decide +kernel
theorem dX5_snap_10 : decode cX5_snap 10 = .ok (.istore_n 1, 1) := by decide +kernel
theorem dX5_snap_11 : decode cX5_snap 11 = .ok (.iload_n 1, 1) := by decide +kernel
theorem dX5_snap_12 : decode cX5_snap 12 = .ok (.sipush 9023, 3) := by decide +kernel
theorem dX5_snap_15 : decode cX5_snap 15 = .ok (.if_icmp .ge 25, 3) := by decide +kernel
theorem dX5_snap_18 : decode cX5_snap 18 = .ok (.aload_n 0, 1) := by decide +kernel
theorem dX5_snap_19 : decode cX5_snap 19 = .ok (.getfield 65, 3) := by decide +kernel
theorem dX5_snap_22 : decode cX5_snap 22 = .ok (.iload_n 1, 1) := by decide +kernel
theorem dX5_snap_23 : decode cX5_snap 23 = .ok (.aload_n 0, 1) := by decide +kernel
theorem dX5_snap_24 : decode cX5_snap 24 = .ok (.getfield 65, 3) := by decide +kernel
theorem dX5_snap_27 : decode cX5_snap 27 = .ok (.iload_n 1, 1) := by decide +kernel
theorem dX5_snap_28 : decode cX5_snap 28 = .ok (.sipush 1289, 3) := by decide +kernel
theorem dX5_snap_31 : decode cX5_snap 31 = .ok (.iadd, 1) := by decide +kernel
theorem dX5_snap_32 : decode cX5_snap 32 = .ok (.iaload, 1) := by decide +kernel
theorem dX5_snap_33 : decode cX5_snap 33 = .ok (.iastore, 1) := by decide +kernel
theorem dX5_snap_34 : decode cX5_snap 34 = .ok (.iinc 1 1, 3) := by decide +kernel
theorem dX5_snap_37 : decode cX5_snap 37 = .ok (.goto (-26), 3) := by decide +kernel
theorem dX5_snap_40 : decode cX5_snap 40 = .ok (.aload_n 0, 1) := by decide +kernel
theorem dX5_snap_41 : decode cX5_snap 41 = .ok (.dup, 1) := by decide +kernel
theorem dX5_snap_42 : decode cX5_snap 42 = .ok (.getfield 145, 3) := by decide +kernel
theorem dX5_snap_45 : decode cX5_snap 45 = .ok (.iconst 1, 1) := by decide +kernel
theorem dX5_snap_46 : decode cX5_snap 46 = .ok (.isub, 1) := by decide +kernel
theorem dX5_snap_47 : decode cX5_snap 47 = .ok (.putfield 145, 3) := by decide +kernel
theorem dX5_snap_50 : decode cX5_snap 50 = .ok (.aload_n 0, 1) := by decide +kernel
theorem dX5_snap_51 : decode cX5_snap 51 = .ok (.getfield 56, 3) := by decide +kernel
theorem dX5_snap_54 : decode cX5_snap 54 = .ok (.iconst 0, 1) := by decide +kernel
theorem dX5_snap_55 : decode cX5_snap 55 = .ok (.aload_n 0, 1) := by decide +kernel
theorem dX5_snap_56 : decode cX5_snap 56 = .ok (.getfield 65, 3) := by decide +kernel
theorem dX5_snap_59 : decode cX5_snap 59 = .ok (.sipush 1289, 3) := by decide +kernel
theorem dX5_snap_62 : decode cX5_snap 62 = .ok (.aload_n 0, 1) := by decide +kernel
theorem dX5_snap_63 : decode cX5_snap 63 = .ok (.getfield 145, 3) := by decide +kernel
theorem dX5_snap_66 : decode cX5_snap 66 = .ok (.imul, 1) := by decide +kernel
theorem dX5_snap_67 : decode cX5_snap 67 = .ok (.invokestatic 141, 3) := by decide +kernel
theorem dX5_snap_70 : decode cX5_snap 70 = .ok (.aload_n 0, 1) := by decide +kernel
theorem dX5_snap_71 : decode cX5_snap 71 = .ok (.dup, 1) := by decide +kernel
theorem dX5_snap_72 : decode cX5_snap 72 = .ok (.getfield 145, 3) := by decide +kernel
theorem dX5_snap_75 : decode cX5_snap 75 = .ok (.iconst 1, 1) := by decide +kernel
theorem dX5_snap_76 : decode cX5_snap 76 = .ok (.iadd, 1) := by decide +kernel
theorem dX5_snap_77 : decode cX5_snap 77 = .ok (.putfield 145, 3) := by decide +kernel
theorem dX5_snap_80 : decode cX5_snap 80 = .ok (.return_, 1) := by decide +kernel
theorem dX5_becomes_0 : decode cX5_becomes 0 = .ok (.aload_n 0, 1) := by decide +kernel
theorem dX5_becomes_1 : decode cX5_becomes 1 = .ok (.invokevirtual 168, 3) := by decide +kernel
theorem dX5_becomes_4 : decode cX5_becomes 4 = .ok (.iconst 0, 1) := by decide +kernel
theorem dX5_becomes_5 : decode cX5_becomes 5 = .ok (.istore_n 3, 1) := by decide +kernel
theorem dX5_becomes_6 : decode cX5_becomes 6 = .ok (.iload_n 3, 1) := by decide +kernel
theorem dX5_becomes_7 : decode cX5_becomes 7 = .ok (.aload_n 0, 1) := by decide +kernel
theorem dX5_becomes_8 : decode cX5_becomes 8 = .ok (.invokevirtual 151, 3) := by decide +kernel
theorem dX5_becomes_11 : decode cX5_becomes 11 = .ok (.if_icmp .gt 31, 3) := by decide +kernel
theorem dX5_becomes_14 : decode cX5_becomes 14 = .ok (.aload_n 0, 1) := by decide +kernel
theorem dX5_becomes_15 : decode cX5_becomes 15 = .ok (.getfield 56, 3) := by decide +kernel
theorem dX5_becomes_18 : decode cX5_becomes 18 = .ok (.sipush 265, 3) := by decide +kernel
theorem dX5_becomes_21 : decode cX5_becomes 21 = .ok (.sipush 256, 3) := by decide +kernel
theorem dX5_becomes_24 : decode cX5_becomes 24 = .ok (.iload_n 1, 1) := by decide +kernel
theorem dX5_becomes_25 : decode cX5_becomes 25 = .ok (.imul, 1) := by decide +kernel
theorem dX5_becomes_26 : decode cX5_becomes 26 = .ok (.iadd, 1) := by decide +kernel
theorem dX5_becomes_27 : decode cX5_becomes 27 = .ok (.iload_n 3, 1) := by decide +kernel
theorem dX5_becomes_28 : decode cX5_becomes 28 = .ok (.iadd, 1) := by decide +kernel
theorem dX5_becomes_29 : decode cX5_becomes 29 = .ok (.aload_n 0, 1) := by decide +kernel
theorem dX5_becomes_30 : decode cX5_becomes 30 = .ok (.getfield 72, 3) := by decide +kernel
theorem dX5_becomes_33 : decode cX5_becomes 33 = .ok (.iload_n 3, 1) := by decide +kernel
theorem dX5_becomes_34 : decode cX5_becomes 34 = .ok (.iaload, 1) := by decide +kernel
theorem dX5_becomes_35 : decode cX5_becomes 35 = .ok (.iastore, 1) := by decide +kernel
theorem dX5_becomes_36 : decode cX5_becomes 36 = .ok (.iinc 3 1, 3) := by decide +kernel
theorem dX5_becomes_39 : decode cX5_becomes 39 = .ok (.goto (-33), 3) := by decide +kernel
theorem dX5_becomes_42 : decode cX5_becomes 42 = .ok (.aload_n 0, 1) := by decide +kernel
theorem dX5_becomes_43 : decode cX5_becomes 43 = .ok (.getfield 72, 3) := by decide +kernel
theorem dX5_becomes_46 : decode cX5_becomes 46 = .ok (.iload_n 2, 1) := by decide +kernel
theorem dX5_becomes_47 : decode cX5_becomes 47 = .ok (.iaload, 1) := by decide +kernel
theorem dX5_becomes_48 : decode cX5_becomes 48 = .ok (.ireturn, 1) := by decide +kernel
theorem dX5_at_0 : decode cX5_at 0 = .ok (.aload_n 0, 1) := by decide +kernel
theorem dX5_at_1 : decode cX5_at 1 = .ok (.iconst 0, 1) := by decide +kernel
theorem dX5_at_2 : decode cX5_at 2 = .ok (.putfield 1, 3) := by decide +kernel
theorem dX5_at_5 : decode cX5_at 5 = .ok (.aload_n 0, 1) := by decide +kernel
theorem dX5_at_6 : decode cX5_at 6 = .ok (.iload_n 1, 1) := by decide +kernel
theorem dX5_at_7 : decode cX5_at 7 = .ok (.invokevirtual 171, 3) := by decide +kernel
theorem dX5_at_10 : decode cX5_at 10 = .ok (.ifCond .eq 20, 3) := by decide +kernel
theorem dX5_at_13 : decode cX5_at 13 = .ok (.aload_n 0, 1) := by decide +kernel
theorem dX5_at_14 : decode cX5_at 14 = .ok (.iload_n 2, 1) := by decide +kernel
theorem dX5_at_15 : decode cX5_at 15 = .ok (.invokevirtual 160, 3) := by decide +kernel
theorem dX5_at_18 : decode cX5_at 18 = .ok (.ifCond .eq 12, 3) := by decide +kernel
theorem dX5_at_21 : decode cX5_at 21 = .ok (.aload_n 0, 1) := by decide +kernel
theorem dX5_at_22 : decode cX5_at 22 = .ok (.iload_n 1, 1) := by decide +kernel
theorem dX5_at_23 : decode cX5_at 23 = .ok (.iload_n 2, 1) := by decide +kernel
theorem dX5_at_24 : decode cX5_at 24 = .ok (.invokevirtual 174, 3) := by decide +kernel
theorem dX5_at_27 : decode cX5_at 27 = .ok (.goto 4, 3) := by decide +kernel
theorem dX5_at_30 : decode cX5_at 30 = .ok (.iconst (-1), 1) := by decide +kernel
theorem dX5_at_31 : decode cX5_at 31 = .ok (.ireturn, 1) := by decide +kernel
theorem dX5_put_0 : decode cX5_put 0 = .ok (.aload_n 0, 1) := by decide +kernel
theorem dX5_put_1 : decode cX5_put 1 = .ok (.iconst 0, 1) := by decide +kernel
theorem dX5_put_2 : decode cX5_put 2 = .ok (.putfield 1, 3) := by decide +kernel
theorem dX5_put_5 : decode cX5_put 5 = .ok (.aload_n 0, 1) := by decide +kernel
theorem dX5_put_6 : decode cX5_put 6 = .ok (.iload_n 1, 1) := by decide +kernel
theorem dX5_put_7 : decode cX5_put 7 = .ok (.invokevirtual 171, 3) := by decide +kernel
theorem dX5_put_10 : decode cX5_put 10 = .ok (.ifCond .eq 11, 3) := by decide +kernel
theorem dX5_put_13 : decode cX5_put 13 = .ok (.aload_n 0, 1) := by decide +kernel
theorem dX5_put_14 : decode cX5_put 14 = .ok (.iload_n 2, 1) := by decide +kernel
theorem dX5_put_15 : decode cX5_put 15 = .ok (.invokevirtual 160, 3) := by decide +kernel
theorem dX5_put_18 : decode cX5_put 18 = .ok (.ifCond .ne 5, 3) := by decide +kernel
theorem dX5_put_21 : decode cX5_put 21 = .ok (.iconst (-1), 1) := by decide +kernel
theorem dX5_put_22 : decode cX5_put 22 = .ok (.ireturn, 1) := by decide +kernel
theorem dX5_put_23 : decode cX5_put 23 = .ok (.aload_n 0, 1) := by decide +kernel
theorem dX5_put_24 : decode cX5_put 24 = .ok (.invokevirtual 168, 3) := by decide +kernel
theorem dX5_put_27 : decode cX5_put 27 = .ok (.aload_n 0, 1) := by decide +kernel
theorem dX5_put_28 : decode cX5_put 28 = .ok (.getfield 56, 3) := by decide +kernel
theorem dX5_put_31 : decode cX5_put 31 = .ok (.sipush 265, 3) := by decide +kernel
theorem dX5_put_34 : decode cX5_put 34 = .ok (.sipush 256, 3) := by decide +kernel
theorem dX5_put_37 : decode cX5_put 37 = .ok (.iload_n 1, 1) := by decide +kernel
theorem dX5_put_38 : decode cX5_put 38 = .ok (.imul, 1) := by decide +kernel
theorem dX5_put_39 : decode cX5_put 39 = .ok (.iadd, 1) := by decide +kernel
theorem dX5_put_40 : decode cX5_put 40 = .ok (.iload_n 2, 1) := by decide +kernel
theorem dX5_put_41 : decode cX5_put 41 = .ok (.iadd, 1) := by decide +kernel
theorem dX5_put_42 : decode cX5_put 42 = .ok (.iload_n 3, 1) := by decide +kernel
theorem dX5_put_43 : decode cX5_put 43 = .ok (.i2l, 1) := by decide +kernel
theorem dX5_put_44 : decode cX5_put 44 = .ok (.invokestatic 178, 3) := by decide +kernel
theorem dX5_put_47 : decode cX5_put 47 = .ok (.iastore, 1) := by decide +kernel
theorem dX5_put_48 : decode cX5_put 48 = .ok (.aload_n 0, 1) := by decide +kernel
theorem dX5_put_49 : decode cX5_put 49 = .ok (.iload_n 1, 1) := by decide +kernel
theorem dX5_put_50 : decode cX5_put 50 = .ok (.iload_n 2, 1) := by decide +kernel
theorem dX5_put_51 : decode cX5_put 51 = .ok (.invokevirtual 174, 3) := by decide +kernel
theorem dX5_put_54 : decode cX5_put 54 = .ok (.ireturn, 1) := by decide +kernel
theorem dX5_isTogether_0 : decode cX5_isTogether 0 = .ok (.iload_n 1, 1) := by decide +kernel
theorem dX5_isTogether_1 : decode cX5_isTogether 1 = .ok (.ifCond .ne 5, 3) := by decide +kernel
theorem dX5_isTogether_4 : decode cX5_isTogether 4 = .ok (.iconst 0, 1) := by decide +kernel
theorem dX5_isTogether_5 : decode cX5_isTogether 5 = .ok (.ireturn, 1) := by decide +kernel
theorem dX5_isTogether_6 : decode cX5_isTogether 6 = .ok (.iload_n 1, 1) := by decide +kernel
theorem dX5_isTogether_7 : decode cX5_isTogether 7 = .ok (.iload_n 1, 1) := by decide +kernel
theorem dX5_isTogether_8 : decode cX5_isTogether 8 = .ok (.ineg, 1) := by decide +kernel
theorem dX5_isTogether_9 : decode cX5_isTogether 9 = .ok (.iand, 1) := by decide +kernel
theorem dX5_isTogether_10 : decode cX5_isTogether 10 = .ok (.istore_n 2, 1) := by decide +kernel
theorem dX5_isTogether_11 : decode cX5_isTogether 11 = .ok (.iconst 0, 1) := by decide +kernel
theorem dX5_isTogether_12 : decode cX5_isTogether 12 = .ok (.istore_n 3, 1) := by decide +kernel
theorem dX5_isTogether_13 : decode cX5_isTogether 13 = .ok (.iload_n 2, 1) := by decide +kernel
theorem dX5_isTogether_14 : decode cX5_isTogether 14 = .ok (.iload_n 3, 1) := by decide +kernel
theorem dX5_isTogether_15 : decode cX5_isTogether 15 = .ok (.if_icmp .eq 51, 3) := by decide +kernel
theorem dX5_isTogether_18 : decode cX5_isTogether 18 = .ok (.iload_n 2, 1) := by decide +kernel
theorem dX5_isTogether_19 : decode cX5_isTogether 19 = .ok (.istore_n 3, 1) := by decide +kernel
theorem dX5_isTogether_20 : decode cX5_isTogether 20 = .ok (.iconst 0, 1) := by decide +kernel
theorem dX5_isTogether_21 : decode cX5_isTogether 21 = .ok (.istore 4, 2) := by decide +kernel
theorem dX5_isTogether_23 : decode cX5_isTogether 23 = .ok (.iload 4, 2) := by decide +kernel
theorem dX5_isTogether_25 : decode cX5_isTogether 25 = .ok (.aload_n 0, 1) := by decide +kernel
theorem dX5_isTogether_26 : decode cX5_isTogether 26 = .ok (.invokevirtual 148, 3) := by decide +kernel
theorem dX5_isTogether_29 : decode cX5_isTogether 29 = .ok (.if_icmp .ge 34, 3) := by decide +kernel
theorem dX5_isTogether_32 : decode cX5_isTogether 32 = .ok (.iload_n 3, 1) := by decide +kernel
theorem dX5_isTogether_33 : decode cX5_isTogether 33 = .ok (.iload 4, 2) := by decide +kernel
theorem dX5_isTogether_35 : decode cX5_isTogether 35 = .ok (.invokestatic 103, 3) := by decide +kernel
theorem dX5_isTogether_38 : decode cX5_isTogether 38 = .ok (.ifCond .eq 19, 3) := by decide +kernel
theorem dX5_isTogether_41 : decode cX5_isTogether 41 = .ok (.iload_n 2, 1) := by decide +kernel
theorem dX5_isTogether_42 : decode cX5_isTogether 42 = .ok (.aload_n 0, 1) := by decide +kernel
theorem dX5_isTogether_43 : decode cX5_isTogether 43 = .ok (.getfield 56, 3) := by decide +kernel
theorem dX5_isTogether_46 : decode cX5_isTogether 46 = .ok (.sipush 257, 3) := by decide +kernel
theorem dX5_isTogether_49 : decode cX5_isTogether 49 = .ok (.iload 4, 2) := by decide +kernel
theorem dX5_isTogether_51 : decode cX5_isTogether 51 = .ok (.iadd, 1) := by decide +kernel
theorem dX5_isTogether_52 : decode cX5_isTogether 52 = .ok (.iaload, 1) := by decide +kernel
theorem dX5_isTogether_53 : decode cX5_isTogether 53 = .ok (.iload_n 1, 1) := by decide +kernel
theorem dX5_isTogether_54 : decode cX5_isTogether 54 = .ok (.iand, 1) := by decide +kernel
theorem dX5_isTogether_55 : decode cX5_isTogether 55 = .ok (.ior, 1) := by decide +kernel
theorem dX5_isTogether_56 : decode cX5_isTogether 56 = .ok (.istore_n 2, 1) := by decide +kernel
theorem dX5_isTogether_57 : decode cX5_isTogether 57 = .ok (.iinc 4 1, 3) := by decide +kernel
theorem dX5_isTogether_60 : decode cX5_isTogether 60 = .ok (.goto (-37), 3) := by decide +kernel
theorem dX5_isTogether_63 : decode cX5_isTogether 63 = .ok (.goto (-50), 3) := by decide +kernel
theorem dX5_isTogether_66 : decode cX5_isTogether 66 = .ok (.iload_n 2, 1) := by decide +kernel
theorem dX5_isTogether_67 : decode cX5_isTogether 67 = .ok (.iload_n 1, 1) := by decide +kernel
theorem dX5_isTogether_68 : decode cX5_isTogether 68 = .ok (.if_icmp .ne 7, 3) := by decide +kernel
theorem dX5_isTogether_71 : decode cX5_isTogether 71 = .ok (.iconst 1, 1) := by decide +kernel
theorem dX5_isTogether_72 : decode cX5_isTogether 72 = .ok (.goto 4, 3) := by decide +kernel
theorem dX5_isTogether_75 : decode cX5_isTogether 75 = .ok (.iconst 0, 1) := by decide +kernel
theorem dX5_isTogether_76 : decode cX5_isTogether 76 = .ok (.ireturn, 1) := by decide +kernel
theorem dX5_isFull_0 : decode cX5_isFull 0 = .ok (.aload_n 0, 1) := by decide +kernel
theorem dX5_isFull_1 : decode cX5_isFull 1 = .ok (.iload_n 1, 1) := by decide +kernel
theorem dX5_isFull_2 : decode cX5_isFull 2 = .ok (.invokevirtual 157, 3) := by decide +kernel
theorem dX5_isFull_5 : decode cX5_isFull 5 = .ok (.iload_n 1, 1) := by decide +kernel
theorem dX5_isFull_6 : decode cX5_isFull 6 = .ok (.invokestatic 111, 3) := by decide +kernel
theorem dX5_isFull_9 : decode cX5_isFull 9 = .ok (.iload_n 1, 1) := by decide +kernel
theorem dX5_isFull_10 : decode cX5_isFull 10 = .ok (.invokestatic 111, 3) := by decide +kernel
theorem dX5_isFull_13 : decode cX5_isFull 13 = .ok (.iconst 1, 1) := by decide +kernel
theorem dX5_isFull_14 : decode cX5_isFull 14 = .ok (.isub, 1) := by decide +kernel
theorem dX5_isFull_15 : decode cX5_isFull 15 = .ok (.imul, 1) := by decide +kernel
theorem dX5_isFull_16 : decode cX5_isFull 16 = .ok (.iconst 2, 1) := by decide +kernel
theorem dX5_isFull_17 : decode cX5_isFull 17 = .ok (.idiv, 1) := by decide +kernel
theorem dX5_isFull_18 : decode cX5_isFull 18 = .ok (.if_icmp .ne 7, 3) := by decide +kernel
theorem dX5_isFull_21 : decode cX5_isFull 21 = .ok (.iconst 1, 1) := by decide +kernel
theorem dX5_isFull_22 : decode cX5_isFull 22 = .ok (.goto 4, 3) := by decide +kernel
theorem dX5_isFull_25 : decode cX5_isFull 25 = .ok (.iconst 0, 1) := by decide +kernel
theorem dX5_isFull_26 : decode cX5_isFull 26 = .ok (.ireturn, 1) := by decide +kernel
theorem dX5_laid_0 : decode cX5_laid 0 = .ok (.iload_n 1, 1) := by decide +kernel
theorem dX5_laid_1 : decode cX5_laid 1 = .ok (.tableswitch 127 0 6 #[43, 52, 69, 83, 97, 108, 122], 43) := by decide +kernel
theorem dX5_laid_44 : decode cX5_laid 44 = .ok (.aload_n 0, 1) := by decide +kernel
theorem dX5_laid_45 : decode cX5_laid 45 = .ok (.getfield 56, 3) := by decide +kernel
theorem dX5_laid_48 : decode cX5_laid 48 = .ok (.iconst 1, 1) := by decide +kernel
theorem dX5_laid_49 : decode cX5_laid 49 = .ok (.iload_n 2, 1) := by decide +kernel
theorem dX5_laid_50 : decode cX5_laid 50 = .ok (.iadd, 1) := by decide +kernel
theorem dX5_laid_51 : decode cX5_laid 51 = .ok (.iaload, 1) := by decide +kernel
theorem dX5_laid_52 : decode cX5_laid 52 = .ok (.ireturn, 1) := by decide +kernel
theorem dX5_laid_53 : decode cX5_laid 53 = .ok (.aload_n 0, 1) := by decide +kernel
theorem dX5_laid_54 : decode cX5_laid 54 = .ok (.getfield 56, 3) := by decide +kernel
theorem dX5_laid_57 : decode cX5_laid 57 = .ok (.iconst 1, 1) := by decide +kernel
theorem dX5_laid_58 : decode cX5_laid 58 = .ok (.iload_n 2, 1) := by decide +kernel
theorem dX5_laid_59 : decode cX5_laid 59 = .ok (.iadd, 1) := by decide +kernel
theorem dX5_laid_60 : decode cX5_laid 60 = .ok (.iaload, 1) := by decide +kernel
theorem dX5_laid_61 : decode cX5_laid 61 = .ok (.ifCond .le 7, 3) := by decide +kernel
theorem dX5_laid_64 : decode cX5_laid 64 = .ok (.iconst 1, 1) := by decide +kernel
theorem dX5_laid_65 : decode cX5_laid 65 = .ok (.goto 4, 3) := by decide +kernel
theorem dX5_laid_68 : decode cX5_laid 68 = .ok (.iconst 0, 1) := by decide +kernel
theorem dX5_laid_69 : decode cX5_laid 69 = .ok (.ireturn, 1) := by decide +kernel
theorem dX5_laid_70 : decode cX5_laid 70 = .ok (.aload_n 0, 1) := by decide +kernel
theorem dX5_laid_71 : decode cX5_laid 71 = .ok (.iload_n 2, 1) := by decide +kernel
theorem dX5_laid_72 : decode cX5_laid 72 = .ok (.invokevirtual 157, 3) := by decide +kernel
theorem dX5_laid_75 : decode cX5_laid 75 = .ok (.ifCond .ne 7, 3) := by decide +kernel
theorem dX5_laid_78 : decode cX5_laid 78 = .ok (.iconst 1, 1) := by decide +kernel
theorem dX5_laid_79 : decode cX5_laid 79 = .ok (.goto 4, 3) := by decide +kernel
theorem dX5_laid_82 : decode cX5_laid 82 = .ok (.iconst 0, 1) := by decide +kernel
theorem dX5_laid_83 : decode cX5_laid 83 = .ok (.ireturn, 1) := by decide +kernel
theorem dX5_laid_84 : decode cX5_laid 84 = .ok (.aload_n 0, 1) := by decide +kernel
theorem dX5_laid_85 : decode cX5_laid 85 = .ok (.iload_n 2, 1) := by decide +kernel
theorem dX5_laid_86 : decode cX5_laid 86 = .ok (.invokevirtual 182, 3) := by decide +kernel
theorem dX5_laid_89 : decode cX5_laid 89 = .ok (.ifCond .eq 7, 3) := by decide +kernel
theorem dX5_laid_92 : decode cX5_laid 92 = .ok (.iconst 1, 1) := by decide +kernel
theorem dX5_laid_93 : decode cX5_laid 93 = .ok (.goto 4, 3) := by decide +kernel
theorem dX5_laid_96 : decode cX5_laid 96 = .ok (.iconst 0, 1) := by decide +kernel
theorem dX5_laid_97 : decode cX5_laid 97 = .ok (.ireturn, 1) := by decide +kernel
theorem dX5_laid_98 : decode cX5_laid 98 = .ok (.lconst 1, 1) := by decide +kernel
theorem dX5_laid_99 : decode cX5_laid 99 = .ok (.aload_n 0, 1) := by decide +kernel
theorem dX5_laid_100 : decode cX5_laid 100 = .ok (.iload_n 2, 1) := by decide +kernel
theorem dX5_laid_101 : decode cX5_laid 101 = .ok (.invokevirtual 157, 3) := by decide +kernel
theorem dX5_laid_104 : decode cX5_laid 104 = .ok (.lshl, 1) := by decide +kernel
theorem dX5_laid_105 : decode cX5_laid 105 = .ok (.invokestatic 178, 3) := by decide +kernel
theorem dX5_laid_108 : decode cX5_laid 108 = .ok (.ireturn, 1) := by decide +kernel
theorem dX5_laid_109 : decode cX5_laid 109 = .ok (.aload_n 0, 1) := by decide +kernel
theorem dX5_laid_110 : decode cX5_laid 110 = .ok (.iload_n 2, 1) := by decide +kernel
theorem dX5_laid_111 : decode cX5_laid 111 = .ok (.invokevirtual 185, 3) := by decide +kernel
theorem dX5_laid_114 : decode cX5_laid 114 = .ok (.ifCond .eq 7, 3) := by decide +kernel
theorem dX5_laid_117 : decode cX5_laid 117 = .ok (.iconst 1, 1) := by decide +kernel
theorem dX5_laid_118 : decode cX5_laid 118 = .ok (.goto 4, 3) := by decide +kernel
theorem dX5_laid_121 : decode cX5_laid 121 = .ok (.iconst 0, 1) := by decide +kernel
theorem dX5_laid_122 : decode cX5_laid 122 = .ok (.ireturn, 1) := by decide +kernel
theorem dX5_laid_123 : decode cX5_laid 123 = .ok (.iload_n 2, 1) := by decide +kernel
theorem dX5_laid_124 : decode cX5_laid 124 = .ok (.invokestatic 111, 3) := by decide +kernel
theorem dX5_laid_127 : decode cX5_laid 127 = .ok (.ireturn, 1) := by decide +kernel
theorem dX5_laid_128 : decode cX5_laid 128 = .ok (.iload_n 2, 1) := by decide +kernel
theorem dX5_laid_129 : decode cX5_laid 129 = .ok (.ifCond .ne 7, 3) := by decide +kernel
theorem dX5_laid_132 : decode cX5_laid 132 = .ok (.iconst 1, 1) := by decide +kernel
theorem dX5_laid_133 : decode cX5_laid 133 = .ok (.goto 4, 3) := by decide +kernel
theorem dX5_laid_136 : decode cX5_laid 136 = .ok (.iconst 0, 1) := by decide +kernel
theorem dX5_laid_137 : decode cX5_laid 137 = .ok (.ireturn, 1) := by decide +kernel
theorem dX5_lay_0 : decode cX5_lay 0 = .ok (.aload_n 0, 1) := by decide +kernel
theorem dX5_lay_1 : decode cX5_lay 1 = .ok (.iconst 0, 1) := by decide +kernel
theorem dX5_lay_2 : decode cX5_lay 2 = .ok (.putfield 1, 3) := by decide +kernel
theorem dX5_lay_5 : decode cX5_lay 5 = .ok (.aload_n 0, 1) := by decide +kernel
theorem dX5_lay_6 : decode cX5_lay 6 = .ok (.iload_n 1, 1) := by decide +kernel
theorem dX5_lay_7 : decode cX5_lay 7 = .ok (.invokevirtual 171, 3) := by decide +kernel
theorem dX5_lay_10 : decode cX5_lay 10 = .ok (.ifCond .eq 13, 3) := by decide +kernel
theorem dX5_lay_13 : decode cX5_lay 13 = .ok (.iload_n 2, 1) := by decide +kernel
theorem dX5_lay_14 : decode cX5_lay 14 = .ok (.iconst 0, 1) := by decide +kernel
theorem dX5_lay_15 : decode cX5_lay 15 = .ok (.bipush 7, 2) := by decide +kernel
theorem dX5_lay_17 : decode cX5_lay 17 = .ok (.invokestatic 99, 3) := by decide +kernel
theorem dX5_lay_20 : decode cX5_lay 20 = .ok (.ifCond .ne 5, 3) := by decide +kernel
theorem dX5_lay_23 : decode cX5_lay 23 = .ok (.iconst (-1), 1) := by decide +kernel
theorem dX5_lay_24 : decode cX5_lay 24 = .ok (.ireturn, 1) := by decide +kernel
theorem dX5_lay_25 : decode cX5_lay 25 = .ok (.iconst 0, 1) := by decide +kernel
theorem dX5_lay_26 : decode cX5_lay 26 = .ok (.istore_n 3, 1) := by decide +kernel
theorem dX5_lay_27 : decode cX5_lay 27 = .ok (.iload_n 3, 1) := by decide +kernel
theorem dX5_lay_28 : decode cX5_lay 28 = .ok (.aload_n 0, 1) := by decide +kernel
theorem dX5_lay_29 : decode cX5_lay 29 = .ok (.invokevirtual 151, 3) := by decide +kernel
theorem dX5_lay_32 : decode cX5_lay 32 = .ok (.if_icmp .gt 21, 3) := by decide +kernel
theorem dX5_lay_35 : decode cX5_lay 35 = .ok (.aload_n 0, 1) := by decide +kernel
theorem dX5_lay_36 : decode cX5_lay 36 = .ok (.getfield 72, 3) := by decide +kernel
theorem dX5_lay_39 : decode cX5_lay 39 = .ok (.iload_n 3, 1) := by decide +kernel
theorem dX5_lay_40 : decode cX5_lay 40 = .ok (.aload_n 0, 1) := by decide +kernel
theorem dX5_lay_41 : decode cX5_lay 41 = .ok (.iload_n 2, 1) := by decide +kernel
theorem dX5_lay_42 : decode cX5_lay 42 = .ok (.iload_n 3, 1) := by decide +kernel
theorem dX5_lay_43 : decode cX5_lay 43 = .ok (.invokevirtual 188, 3) := by decide +kernel
theorem dX5_lay_46 : decode cX5_lay 46 = .ok (.iastore, 1) := by decide +kernel
theorem dX5_lay_47 : decode cX5_lay 47 = .ok (.iinc 3 1, 3) := by decide +kernel
theorem dX5_lay_50 : decode cX5_lay 50 = .ok (.goto (-23), 3) := by decide +kernel
theorem dX5_lay_53 : decode cX5_lay 53 = .ok (.aload_n 0, 1) := by decide +kernel
theorem dX5_lay_54 : decode cX5_lay 54 = .ok (.iload_n 1, 1) := by decide +kernel
theorem dX5_lay_55 : decode cX5_lay 55 = .ok (.aload_n 0, 1) := by decide +kernel
theorem dX5_lay_56 : decode cX5_lay 56 = .ok (.invokevirtual 151, 3) := by decide +kernel
theorem dX5_lay_59 : decode cX5_lay 59 = .ok (.invokevirtual 191, 3) := by decide +kernel
theorem dX5_lay_62 : decode cX5_lay 62 = .ok (.ireturn, 1) := by decide +kernel
theorem dX5_laysSums_0 : decode cX5_laysSums 0 = .ok (.iconst 0, 1) := by decide +kernel
theorem dX5_laysSums_1 : decode cX5_laysSums 1 = .ok (.istore 4, 2) := by decide +kernel
theorem dX5_laysSums_3 : decode cX5_laysSums 3 = .ok (.iload 4, 2) := by decide +kernel
theorem dX5_laysSums_5 : decode cX5_laysSums 5 = .ok (.aload_n 0, 1) := by decide +kernel
theorem dX5_laysSums_6 : decode cX5_laysSums 6 = .ok (.invokevirtual 151, 3) := by decide +kernel
theorem dX5_laysSums_9 : decode cX5_laysSums 9 = .ok (.if_icmp .gt 124, 3) := by decide +kernel
theorem dX5_laysSums_12 : decode cX5_laysSums 12 = .ok (.lconst 0, 1) := by decide +kernel
theorem dX5_laysSums_13 : decode cX5_laysSums 13 = .ok (.lstore 5, 2) := by decide +kernel
theorem dX5_laysSums_15 : decode cX5_laysSums 15 = .ok (.iconst 0, 1) := by decide +kernel
theorem dX5_laysSums_16 : decode cX5_laysSums 16 = .ok (.istore 7, 2) := by decide +kernel
theorem dX5_laysSums_18 : decode cX5_laysSums 18 = .ok (.iload 7, 2) := by decide +kernel
theorem dX5_laysSums_20 : decode cX5_laysSums 20 = .ok (.aload_n 0, 1) := by decide +kernel
theorem dX5_laysSums_21 : decode cX5_laysSums 21 = .ok (.invokevirtual 151, 3) := by decide +kernel
theorem dX5_laysSums_24 : decode cX5_laysSums 24 = .ok (.if_icmp .gt 91, 3) := by decide +kernel
theorem dX5_laysSums_27 : decode cX5_laysSums 27 = .ok (.iload_n 2, 1) := by decide +kernel
theorem dX5_laysSums_28 : decode cX5_laysSums 28 = .ok (.ifCond .eq 13, 3) := by decide +kernel
theorem dX5_laysSums_31 : decode cX5_laysSums 31 = .ok (.iload 4, 2) := by decide +kernel
theorem dX5_laysSums_33 : decode cX5_laysSums 33 = .ok (.iload 7, 2) := by decide +kernel
theorem dX5_laysSums_35 : decode cX5_laysSums 35 = .ok (.iconst (-1), 1) := by decide +kernel
theorem dX5_laysSums_36 : decode cX5_laysSums 36 = .ok (.ixor, 1) := by decide +kernel
theorem dX5_laysSums_37 : decode cX5_laysSums 37 = .ok (.iand, 1) := by decide +kernel
theorem dX5_laysSums_38 : decode cX5_laysSums 38 = .ok (.goto 10, 3) := by decide +kernel
theorem dX5_laysSums_41 : decode cX5_laysSums 41 = .ok (.iload 7, 2) := by decide +kernel
theorem dX5_laysSums_43 : decode cX5_laysSums 43 = .ok (.iload 4, 2) := by decide +kernel
theorem dX5_laysSums_45 : decode cX5_laysSums 45 = .ok (.iconst (-1), 1) := by decide +kernel
theorem dX5_laysSums_46 : decode cX5_laysSums 46 = .ok (.ixor, 1) := by decide +kernel
theorem dX5_laysSums_47 : decode cX5_laysSums 47 = .ok (.iand, 1) := by decide +kernel
theorem dX5_laysSums_48 : decode cX5_laysSums 48 = .ok (.ifCond .eq 6, 3) := by decide +kernel
theorem dX5_laysSums_51 : decode cX5_laysSums 51 = .ok (.goto 58, 3) := by decide +kernel
theorem dX5_laysSums_54 : decode cX5_laysSums 54 = .ok (.iload_n 3, 1) := by decide +kernel
theorem dX5_laysSums_55 : decode cX5_laysSums 55 = .ok (.ifCond .eq 21, 3) := by decide +kernel
theorem dX5_laysSums_58 : decode cX5_laysSums 58 = .ok (.iload 4, 2) := by decide +kernel
theorem dX5_laysSums_60 : decode cX5_laysSums 60 = .ok (.iload 7, 2) := by decide +kernel
theorem dX5_laysSums_62 : decode cX5_laysSums 62 = .ok (.ixor, 1) := by decide +kernel
theorem dX5_laysSums_63 : decode cX5_laysSums 63 = .ok (.invokestatic 111, 3) := by decide +kernel
theorem dX5_laysSums_66 : decode cX5_laysSums 66 = .ok (.iconst 2, 1) := by decide +kernel
theorem dX5_laysSums_67 : decode cX5_laysSums 67 = .ok (.irem, 1) := by decide +kernel
theorem dX5_laysSums_68 : decode cX5_laysSums 68 = .ok (.iconst 1, 1) := by decide +kernel
theorem dX5_laysSums_69 : decode cX5_laysSums 69 = .ok (.if_icmp .ne 7, 3) := by decide +kernel
theorem dX5_laysSums_72 : decode cX5_laysSums 72 = .ok (.iconst 1, 1) := by decide +kernel
theorem dX5_laysSums_73 : decode cX5_laysSums 73 = .ok (.goto 4, 3) := by decide +kernel
theorem dX5_laysSums_76 : decode cX5_laysSums 76 = .ok (.iconst 0, 1) := by decide +kernel
theorem dX5_laysSums_77 : decode cX5_laysSums 77 = .ok (.istore 8, 2) := by decide +kernel
theorem dX5_laysSums_79 : decode cX5_laysSums 79 = .ok (.lload 5, 2) := by decide +kernel
theorem dX5_laysSums_81 : decode cX5_laysSums 81 = .ok (.iload 8, 2) := by decide +kernel
theorem dX5_laysSums_83 : decode cX5_laysSums 83 = .ok (.ifCond .eq 15, 3) := by decide +kernel
theorem dX5_laysSums_86 : decode cX5_laysSums 86 = .ok (.aload_n 0, 1) := by decide +kernel
theorem dX5_laysSums_87 : decode cX5_laysSums 87 = .ok (.iload_n 1, 1) := by decide +kernel
theorem dX5_laysSums_88 : decode cX5_laysSums 88 = .ok (.iload 7, 2) := by decide +kernel
theorem dX5_laysSums_90 : decode cX5_laysSums 90 = .ok (.invokevirtual 174, 3) := by decide +kernel
theorem dX5_laysSums_93 : decode cX5_laysSums 93 = .ok (.ineg, 1) := by decide +kernel
theorem dX5_laysSums_94 : decode cX5_laysSums 94 = .ok (.i2l, 1) := by decide +kernel
theorem dX5_laysSums_95 : decode cX5_laysSums 95 = .ok (.goto 11, 3) := by decide +kernel
theorem dX5_laysSums_98 : decode cX5_laysSums 98 = .ok (.aload_n 0, 1) := by decide +kernel
theorem dX5_laysSums_99 : decode cX5_laysSums 99 = .ok (.iload_n 1, 1) := by decide +kernel
theorem dX5_laysSums_100 : decode cX5_laysSums 100 = .ok (.iload 7, 2) := by decide +kernel
theorem dX5_laysSums_102 : decode cX5_laysSums 102 = .ok (.invokevirtual 174, 3) := by decide +kernel
theorem dX5_laysSums_105 : decode cX5_laysSums 105 = .ok (.i2l, 1) := by decide +kernel
theorem dX5_laysSums_106 : decode cX5_laysSums 106 = .ok (.ladd, 1) := by decide +kernel
theorem dX5_laysSums_107 : decode cX5_laysSums 107 = .ok (.lstore 5, 2) := by decide +kernel
theorem dX5_laysSums_109 : decode cX5_laysSums 109 = .ok (.iinc 7 1, 3) := by decide +kernel
theorem dX5_laysSums_112 : decode cX5_laysSums 112 = .ok (.goto (-94), 3) := by decide +kernel
theorem dX5_laysSums_115 : decode cX5_laysSums 115 = .ok (.aload_n 0, 1) := by decide +kernel
theorem dX5_laysSums_116 : decode cX5_laysSums 116 = .ok (.getfield 72, 3) := by decide +kernel
theorem dX5_laysSums_119 : decode cX5_laysSums 119 = .ok (.iload 4, 2) := by decide +kernel
theorem dX5_laysSums_121 : decode cX5_laysSums 121 = .ok (.lload 5, 2) := by decide +kernel
theorem dX5_laysSums_123 : decode cX5_laysSums 123 = .ok (.invokestatic 178, 3) := by decide +kernel
theorem dX5_laysSums_126 : decode cX5_laysSums 126 = .ok (.iastore, 1) := by decide +kernel
theorem dX5_laysSums_127 : decode cX5_laysSums 127 = .ok (.iinc 4 1, 3) := by decide +kernel
theorem dX5_laysSums_130 : decode cX5_laysSums 130 = .ok (.goto (-127), 3) := by decide +kernel
theorem dX5_laysSums_133 : decode cX5_laysSums 133 = .ok (.return_, 1) := by decide +kernel
theorem dX5_sums_0 : decode cX5_sums 0 = .ok (.aload_n 0, 1) := by decide +kernel
theorem dX5_sums_1 : decode cX5_sums 1 = .ok (.iconst 0, 1) := by decide +kernel
theorem dX5_sums_2 : decode cX5_sums 2 = .ok (.putfield 1, 3) := by decide +kernel
theorem dX5_sums_5 : decode cX5_sums 5 = .ok (.aload_n 0, 1) := by decide +kernel
theorem dX5_sums_6 : decode cX5_sums 6 = .ok (.iload_n 1, 1) := by decide +kernel
theorem dX5_sums_7 : decode cX5_sums 7 = .ok (.invokevirtual 171, 3) := by decide +kernel
theorem dX5_sums_10 : decode cX5_sums 10 = .ok (.ifCond .ne 5, 3) := by decide +kernel
theorem dX5_sums_13 : decode cX5_sums 13 = .ok (.iconst (-1), 1) := by decide +kernel
theorem dX5_sums_14 : decode cX5_sums 14 = .ok (.ireturn, 1) := by decide +kernel
theorem dX5_sums_15 : decode cX5_sums 15 = .ok (.aload_n 0, 1) := by decide +kernel
theorem dX5_sums_16 : decode cX5_sums 16 = .ok (.iload_n 1, 1) := by decide +kernel
theorem dX5_sums_17 : decode cX5_sums 17 = .ok (.iload_n 2, 1) := by decide +kernel
theorem dX5_sums_18 : decode cX5_sums 18 = .ok (.iload_n 3, 1) := by decide +kernel
theorem dX5_sums_19 : decode cX5_sums 19 = .ok (.invokevirtual 194, 3) := by decide +kernel
theorem dX5_sums_22 : decode cX5_sums 22 = .ok (.aload_n 0, 1) := by decide +kernel
theorem dX5_sums_23 : decode cX5_sums 23 = .ok (.iload_n 1, 1) := by decide +kernel
theorem dX5_sums_24 : decode cX5_sums 24 = .ok (.iload_n 2, 1) := by decide +kernel
theorem dX5_sums_25 : decode cX5_sums 25 = .ok (.ifCond .eq 7, 3) := by decide +kernel
theorem dX5_sums_28 : decode cX5_sums 28 = .ok (.iconst 0, 1) := by decide +kernel
theorem dX5_sums_29 : decode cX5_sums 29 = .ok (.goto 7, 3) := by decide +kernel
theorem dX5_sums_32 : decode cX5_sums 32 = .ok (.aload_n 0, 1) := by decide +kernel
theorem dX5_sums_33 : decode cX5_sums 33 = .ok (.invokevirtual 151, 3) := by decide +kernel
theorem dX5_sums_36 : decode cX5_sums 36 = .ok (.invokevirtual 191, 3) := by decide +kernel
theorem dX5_sums_39 : decode cX5_sums 39 = .ok (.ireturn, 1) := by decide +kernel
theorem dX5_sum_0 : decode cX5_sum 0 = .ok (.aload_n 0, 1) := by decide +kernel
theorem dX5_sum_1 : decode cX5_sum 1 = .ok (.iload_n 1, 1) := by decide +kernel
theorem dX5_sum_2 : decode cX5_sum 2 = .ok (.iload_n 2, 1) := by decide +kernel
theorem dX5_sum_3 : decode cX5_sum 3 = .ok (.iconst 0, 1) := by decide +kernel
theorem dX5_sum_4 : decode cX5_sum 4 = .ok (.invokevirtual 198, 3) := by decide +kernel
theorem dX5_sum_7 : decode cX5_sum 7 = .ok (.ireturn, 1) := by decide +kernel
theorem dX5_back_0 : decode cX5_back 0 = .ok (.aload_n 0, 1) := by decide +kernel
theorem dX5_back_1 : decode cX5_back 1 = .ok (.iload_n 1, 1) := by decide +kernel
theorem dX5_back_2 : decode cX5_back 2 = .ok (.iload_n 2, 1) := by decide +kernel
theorem dX5_back_3 : decode cX5_back 3 = .ok (.iconst 1, 1) := by decide +kernel
theorem dX5_back_4 : decode cX5_back 4 = .ok (.invokevirtual 198, 3) := by decide +kernel
theorem dX5_back_7 : decode cX5_back 7 = .ok (.ireturn, 1) := by decide +kernel
theorem dX5_makes_0 : decode cX5_makes 0 = .ok (.iload_n 2, 1) := by decide +kernel
theorem dX5_makes_1 : decode cX5_makes 1 = .ok (.tableswitch 57 0 3 #[31, 45, 49, 53], 31) := by decide +kernel
theorem dX5_makes_32 : decode cX5_makes 32 = .ok (.iload_n 0, 1) := by decide +kernel
theorem dX5_makes_33 : decode cX5_makes 33 = .ok (.iload_n 1, 1) := by decide +kernel
theorem dX5_makes_34 : decode cX5_makes 34 = .ok (.iand, 1) := by decide +kernel
theorem dX5_makes_35 : decode cX5_makes 35 = .ok (.ifCond .ne 9, 3) := by decide +kernel
theorem dX5_makes_38 : decode cX5_makes 38 = .ok (.iload_n 0, 1) := by decide +kernel
theorem dX5_makes_39 : decode cX5_makes 39 = .ok (.iload_n 1, 1) := by decide +kernel
theorem dX5_makes_40 : decode cX5_makes 40 = .ok (.ior, 1) := by decide +kernel
theorem dX5_makes_41 : decode cX5_makes 41 = .ok (.goto 4, 3) := by decide +kernel
theorem dX5_makes_44 : decode cX5_makes 44 = .ok (.iconst (-1), 1) := by decide +kernel
theorem dX5_makes_45 : decode cX5_makes 45 = .ok (.ireturn, 1) := by decide +kernel
theorem dX5_makes_46 : decode cX5_makes 46 = .ok (.iload_n 0, 1) := by decide +kernel
theorem dX5_makes_47 : decode cX5_makes 47 = .ok (.iload_n 1, 1) := by decide +kernel
theorem dX5_makes_48 : decode cX5_makes 48 = .ok (.ior, 1) := by decide +kernel
theorem dX5_makes_49 : decode cX5_makes 49 = .ok (.ireturn, 1) := by decide +kernel
theorem dX5_makes_50 : decode cX5_makes 50 = .ok (.iload_n 0, 1) := by decide +kernel
theorem dX5_makes_51 : decode cX5_makes 51 = .ok (.iload_n 1, 1) := by decide +kernel
theorem dX5_makes_52 : decode cX5_makes 52 = .ok (.iand, 1) := by decide +kernel
theorem dX5_makes_53 : decode cX5_makes 53 = .ok (.ireturn, 1) := by decide +kernel
theorem dX5_makes_54 : decode cX5_makes 54 = .ok (.iload_n 0, 1) := by decide +kernel
theorem dX5_makes_55 : decode cX5_makes 55 = .ok (.iload_n 1, 1) := by decide +kernel
theorem dX5_makes_56 : decode cX5_makes 56 = .ok (.ixor, 1) := by decide +kernel
theorem dX5_makes_57 : decode cX5_makes 57 = .ok (.ireturn, 1) := by decide +kernel
theorem dX5_makes_58 : decode cX5_makes 58 = .ok (.iload_n 0, 1) := by decide +kernel
theorem dX5_makes_59 : decode cX5_makes 59 = .ok (.iload_n 1, 1) := by decide +kernel
theorem dX5_makes_60 : decode cX5_makes 60 = .ok (.if_icmp .ne 7, 3) := by decide +kernel
theorem dX5_makes_63 : decode cX5_makes 63 = .ok (.iload_n 0, 1) := by decide +kernel
theorem dX5_makes_64 : decode cX5_makes 64 = .ok (.goto 4, 3) := by decide +kernel
theorem dX5_makes_67 : decode cX5_makes 67 = .ok (.iconst (-1), 1) := by decide +kernel
theorem dX5_makes_68 : decode cX5_makes 68 = .ok (.ireturn, 1) := by decide +kernel
theorem dX5_product_0 : decode cX5_product 0 = .ok (.iload_n 3, 1) := by decide +kernel
theorem dX5_product_1 : decode cX5_product 1 = .ok (.lookupswitch 49 #[(5, 27), (6, 38)], 27) := by decide +kernel
theorem dX5_product_28 : decode cX5_product 28 = .ok (.lconst 0, 1) := by decide +kernel
theorem dX5_product_29 : decode cX5_product 29 = .ok (.iload_n 1, 1) := by decide +kernel
theorem dX5_product_30 : decode cX5_product 30 = .ok (.i2l, 1) := by decide +kernel
theorem dX5_product_31 : decode cX5_product 31 = .ok (.ladd, 1) := by decide +kernel
theorem dX5_product_32 : decode cX5_product 32 = .ok (.iload_n 2, 1) := by decide +kernel
theorem dX5_product_33 : decode cX5_product 33 = .ok (.i2l, 1) := by decide +kernel
theorem dX5_product_34 : decode cX5_product 34 = .ok (.ladd, 1) := by decide +kernel
theorem dX5_product_35 : decode cX5_product 35 = .ok (.invokestatic 178, 3) := by decide +kernel
theorem dX5_product_38 : decode cX5_product 38 = .ok (.ireturn, 1) := by decide +kernel
theorem dX5_product_39 : decode cX5_product 39 = .ok (.lconst 0, 1) := by decide +kernel
theorem dX5_product_40 : decode cX5_product 40 = .ok (.iload_n 1, 1) := by decide +kernel
theorem dX5_product_41 : decode cX5_product 41 = .ok (.i2l, 1) := by decide +kernel
theorem dX5_product_42 : decode cX5_product 42 = .ok (.ladd, 1) := by decide +kernel
theorem dX5_product_43 : decode cX5_product 43 = .ok (.iload_n 2, 1) := by decide +kernel
theorem dX5_product_44 : decode cX5_product 44 = .ok (.i2l, 1) := by decide +kernel
theorem dX5_product_45 : decode cX5_product 45 = .ok (.lsub, 1) := by decide +kernel
theorem dX5_product_46 : decode cX5_product 46 = .ok (.invokestatic 178, 3) := by decide +kernel
theorem dX5_product_49 : decode cX5_product 49 = .ok (.ireturn, 1) := by decide +kernel
theorem dX5_product_50 : decode cX5_product 50 = .ok (.iload_n 1, 1) := by decide +kernel
theorem dX5_product_51 : decode cX5_product 51 = .ok (.i2l, 1) := by decide +kernel
theorem dX5_product_52 : decode cX5_product 52 = .ok (.iload_n 2, 1) := by decide +kernel
theorem dX5_product_53 : decode cX5_product 53 = .ok (.i2l, 1) := by decide +kernel
theorem dX5_product_54 : decode cX5_product 54 = .ok (.lmul, 1) := by decide +kernel
theorem dX5_product_55 : decode cX5_product 55 = .ok (.invokestatic 178, 3) := by decide +kernel
theorem dX5_product_58 : decode cX5_product 58 = .ok (.ireturn, 1) := by decide +kernel
theorem dX5_times_0 : decode cX5_times 0 = .ok (.aload_n 0, 1) := by decide +kernel
theorem dX5_times_1 : decode cX5_times 1 = .ok (.iconst 0, 1) := by decide +kernel
theorem dX5_times_2 : decode cX5_times 2 = .ok (.putfield 1, 3) := by decide +kernel
theorem dX5_times_5 : decode cX5_times 5 = .ok (.aload_n 0, 1) := by decide +kernel
theorem dX5_times_6 : decode cX5_times 6 = .ok (.iload_n 1, 1) := by decide +kernel
theorem dX5_times_7 : decode cX5_times 7 = .ok (.invokevirtual 171, 3) := by decide +kernel
theorem dX5_times_10 : decode cX5_times 10 = .ok (.ifCond .eq 30, 3) := by decide +kernel
theorem dX5_times_13 : decode cX5_times 13 = .ok (.aload_n 0, 1) := by decide +kernel
theorem dX5_times_14 : decode cX5_times 14 = .ok (.iload_n 2, 1) := by decide +kernel
theorem dX5_times_15 : decode cX5_times 15 = .ok (.invokevirtual 171, 3) := by decide +kernel
theorem dX5_times_18 : decode cX5_times 18 = .ok (.ifCond .eq 22, 3) := by decide +kernel
theorem dX5_times_21 : decode cX5_times 21 = .ok (.aload_n 0, 1) := by decide +kernel
theorem dX5_times_22 : decode cX5_times 22 = .ok (.iload 4, 2) := by decide +kernel
theorem dX5_times_24 : decode cX5_times 24 = .ok (.invokevirtual 171, 3) := by decide +kernel
theorem dX5_times_27 : decode cX5_times 27 = .ok (.ifCond .eq 13, 3) := by decide +kernel
theorem dX5_times_30 : decode cX5_times 30 = .ok (.iload_n 3, 1) := by decide +kernel
theorem dX5_times_31 : decode cX5_times 31 = .ok (.iconst 0, 1) := by decide +kernel
theorem dX5_times_32 : decode cX5_times 32 = .ok (.bipush 6, 2) := by decide +kernel
theorem dX5_times_34 : decode cX5_times 34 = .ok (.invokestatic 99, 3) := by decide +kernel
theorem dX5_times_37 : decode cX5_times 37 = .ok (.ifCond .ne 5, 3) := by decide +kernel
theorem dX5_times_40 : decode cX5_times 40 = .ok (.iconst (-1), 1) := by decide +kernel
theorem dX5_times_41 : decode cX5_times 41 = .ok (.ireturn, 1) := by decide +kernel
theorem dX5_times_42 : decode cX5_times 42 = .ok (.iconst 0, 1) := by decide +kernel
theorem dX5_times_43 : decode cX5_times 43 = .ok (.istore 5, 2) := by decide +kernel
theorem dX5_times_45 : decode cX5_times 45 = .ok (.iload 5, 2) := by decide +kernel
theorem dX5_times_47 : decode cX5_times 47 = .ok (.aload_n 0, 1) := by decide +kernel
theorem dX5_times_48 : decode cX5_times 48 = .ok (.invokevirtual 151, 3) := by decide +kernel
theorem dX5_times_51 : decode cX5_times 51 = .ok (.if_icmp .gt 17, 3) := by decide +kernel
theorem dX5_times_54 : decode cX5_times 54 = .ok (.aload_n 0, 1) := by decide +kernel
theorem dX5_times_55 : decode cX5_times 55 = .ok (.getfield 72, 3) := by decide +kernel
theorem dX5_times_58 : decode cX5_times 58 = .ok (.iload 5, 2) := by decide +kernel
theorem dX5_times_60 : decode cX5_times 60 = .ok (.iconst 0, 1) := by decide +kernel
theorem dX5_times_61 : decode cX5_times 61 = .ok (.iastore, 1) := by decide +kernel
theorem dX5_times_62 : decode cX5_times 62 = .ok (.iinc 5 1, 3) := by decide +kernel
theorem dX5_times_65 : decode cX5_times 65 = .ok (.goto (-20), 3) := by decide +kernel
theorem dX5_times_68 : decode cX5_times 68 = .ok (.iconst 0, 1) := by decide +kernel
theorem dX5_times_69 : decode cX5_times 69 = .ok (.istore 5, 2) := by decide +kernel
theorem dX5_times_71 : decode cX5_times 71 = .ok (.iload 5, 2) := by decide +kernel
theorem dX5_times_73 : decode cX5_times 73 = .ok (.aload_n 0, 1) := by decide +kernel
theorem dX5_times_74 : decode cX5_times 74 = .ok (.invokevirtual 151, 3) := by decide +kernel
theorem dX5_times_77 : decode cX5_times 77 = .ok (.if_icmp .gt 84, 3) := by decide +kernel
theorem dX5_times_80 : decode cX5_times 80 = .ok (.iconst 0, 1) := by decide +kernel
theorem dX5_times_81 : decode cX5_times 81 = .ok (.istore 6, 2) := by decide +kernel
theorem dX5_times_83 : decode cX5_times 83 = .ok (.iload 6, 2) := by decide +kernel
theorem dX5_times_85 : decode cX5_times 85 = .ok (.aload_n 0, 1) := by decide +kernel
theorem dX5_times_86 : decode cX5_times 86 = .ok (.invokevirtual 151, 3) := by decide +kernel
theorem dX5_times_89 : decode cX5_times 89 = .ok (.if_icmp .gt 66, 3) := by decide +kernel
theorem dX5_times_92 : decode cX5_times 92 = .ok (.iload 5, 2) := by decide +kernel
theorem dX5_times_94 : decode cX5_times 94 = .ok (.iload 6, 2) := by decide +kernel
theorem dX5_times_96 : decode cX5_times 96 = .ok (.iload_n 3, 1) := by decide +kernel
theorem dX5_times_97 : decode cX5_times 97 = .ok (.invokestatic 202, 3) := by decide +kernel
theorem dX5_times_100 : decode cX5_times 100 = .ok (.istore 7, 2) := by decide +kernel
theorem dX5_times_102 : decode cX5_times 102 = .ok (.iload 7, 2) := by decide +kernel
theorem dX5_times_104 : decode cX5_times 104 = .ok (.iconst (-1), 1) := by decide +kernel
theorem dX5_times_105 : decode cX5_times 105 = .ok (.if_icmp .eq 44, 3) := by decide +kernel
theorem dX5_times_108 : decode cX5_times 108 = .ok (.aload_n 0, 1) := by decide +kernel
theorem dX5_times_109 : decode cX5_times 109 = .ok (.getfield 72, 3) := by decide +kernel
theorem dX5_times_112 : decode cX5_times 112 = .ok (.iload 7, 2) := by decide +kernel
theorem dX5_times_114 : decode cX5_times 114 = .ok (.lconst 0, 1) := by decide +kernel
theorem dX5_times_115 : decode cX5_times 115 = .ok (.aload_n 0, 1) := by decide +kernel
theorem dX5_times_116 : decode cX5_times 116 = .ok (.getfield 72, 3) := by decide +kernel
theorem dX5_times_119 : decode cX5_times 119 = .ok (.iload 7, 2) := by decide +kernel
theorem dX5_times_121 : decode cX5_times 121 = .ok (.iaload, 1) := by decide +kernel
theorem dX5_times_122 : decode cX5_times 122 = .ok (.i2l, 1) := by decide +kernel
theorem dX5_times_123 : decode cX5_times 123 = .ok (.ladd, 1) := by decide +kernel
theorem dX5_times_124 : decode cX5_times 124 = .ok (.aload_n 0, 1) := by decide +kernel
theorem dX5_times_125 : decode cX5_times 125 = .ok (.aload_n 0, 1) := by decide +kernel
theorem dX5_times_126 : decode cX5_times 126 = .ok (.iload_n 1, 1) := by decide +kernel
theorem dX5_times_127 : decode cX5_times 127 = .ok (.iload 5, 2) := by decide +kernel
theorem dX5_times_129 : decode cX5_times 129 = .ok (.invokevirtual 174, 3) := by decide +kernel
theorem dX5_times_132 : decode cX5_times 132 = .ok (.aload_n 0, 1) := by decide +kernel
theorem dX5_times_133 : decode cX5_times 133 = .ok (.iload_n 2, 1) := by decide +kernel
theorem dX5_times_134 : decode cX5_times 134 = .ok (.iload 6, 2) := by decide +kernel
theorem dX5_times_136 : decode cX5_times 136 = .ok (.invokevirtual 174, 3) := by decide +kernel
theorem dX5_times_139 : decode cX5_times 139 = .ok (.iload_n 3, 1) := by decide +kernel
theorem dX5_times_140 : decode cX5_times 140 = .ok (.invokevirtual 206, 3) := by decide +kernel
theorem dX5_times_143 : decode cX5_times 143 = .ok (.i2l, 1) := by decide +kernel
theorem dX5_times_144 : decode cX5_times 144 = .ok (.ladd, 1) := by decide +kernel
theorem dX5_times_145 : decode cX5_times 145 = .ok (.invokestatic 178, 3) := by decide +kernel
theorem dX5_times_148 : decode cX5_times 148 = .ok (.iastore, 1) := by decide +kernel
theorem dX5_times_149 : decode cX5_times 149 = .ok (.iinc 6 1, 3) := by decide +kernel
theorem dX5_times_152 : decode cX5_times 152 = .ok (.goto (-69), 3) := by decide +kernel
theorem dX5_times_155 : decode cX5_times 155 = .ok (.iinc 5 1, 3) := by decide +kernel
theorem dX5_times_158 : decode cX5_times 158 = .ok (.goto (-87), 3) := by decide +kernel
theorem dX5_times_161 : decode cX5_times 161 = .ok (.aload_n 0, 1) := by decide +kernel
theorem dX5_times_162 : decode cX5_times 162 = .ok (.iload 4, 2) := by decide +kernel
theorem dX5_times_164 : decode cX5_times 164 = .ok (.aload_n 0, 1) := by decide +kernel
theorem dX5_times_165 : decode cX5_times 165 = .ok (.invokevirtual 151, 3) := by decide +kernel
theorem dX5_times_168 : decode cX5_times 168 = .ok (.invokevirtual 191, 3) := by decide +kernel
theorem dX5_times_171 : decode cX5_times 171 = .ok (.ireturn, 1) := by decide +kernel
theorem dX5_apart_0 : decode cX5_apart 0 = .ok (.iconst 0, 1) := by decide +kernel
theorem dX5_apart_1 : decode cX5_apart 1 = .ok (.istore_n 2, 1) := by decide +kernel
theorem dX5_apart_2 : decode cX5_apart 2 = .ok (.iload_n 2, 1) := by decide +kernel
theorem dX5_apart_3 : decode cX5_apart 3 = .ok (.aload_n 0, 1) := by decide +kernel
theorem dX5_apart_4 : decode cX5_apart 4 = .ok (.invokevirtual 151, 3) := by decide +kernel
theorem dX5_apart_7 : decode cX5_apart 7 = .ok (.if_icmp .gt 21, 3) := by decide +kernel
theorem dX5_apart_10 : decode cX5_apart 10 = .ok (.aload_n 0, 1) := by decide +kernel
theorem dX5_apart_11 : decode cX5_apart 11 = .ok (.getfield 75, 3) := by decide +kernel
theorem dX5_apart_14 : decode cX5_apart 14 = .ok (.iload_n 2, 1) := by decide +kernel
theorem dX5_apart_15 : decode cX5_apart 15 = .ok (.aload_n 0, 1) := by decide +kernel
theorem dX5_apart_16 : decode cX5_apart 16 = .ok (.getfield 72, 3) := by decide +kernel
theorem dX5_apart_19 : decode cX5_apart 19 = .ok (.iload_n 2, 1) := by decide +kernel
theorem dX5_apart_20 : decode cX5_apart 20 = .ok (.iaload, 1) := by decide +kernel
theorem dX5_apart_21 : decode cX5_apart 21 = .ok (.iastore, 1) := by decide +kernel
theorem dX5_apart_22 : decode cX5_apart 22 = .ok (.iinc 2 1, 3) := by decide +kernel
theorem dX5_apart_25 : decode cX5_apart 25 = .ok (.goto (-23), 3) := by decide +kernel
theorem dX5_apart_28 : decode cX5_apart 28 = .ok (.iconst 0, 1) := by decide +kernel
theorem dX5_apart_29 : decode cX5_apart 29 = .ok (.istore_n 2, 1) := by decide +kernel
theorem dX5_apart_30 : decode cX5_apart 30 = .ok (.iload_n 2, 1) := by decide +kernel
theorem dX5_apart_31 : decode cX5_apart 31 = .ok (.aload_n 0, 1) := by decide +kernel
theorem dX5_apart_32 : decode cX5_apart 32 = .ok (.invokevirtual 151, 3) := by decide +kernel
theorem dX5_apart_35 : decode cX5_apart 35 = .ok (.if_icmp .gt 71, 3) := by decide +kernel
theorem dX5_apart_38 : decode cX5_apart 38 = .ok (.lconst 0, 1) := by decide +kernel
theorem dX5_apart_39 : decode cX5_apart 39 = .ok (.lstore_n 3, 1) := by decide +kernel
theorem dX5_apart_40 : decode cX5_apart 40 = .ok (.iload_n 2, 1) := by decide +kernel
theorem dX5_apart_41 : decode cX5_apart 41 = .ok (.istore 5, 2) := by decide +kernel
theorem dX5_apart_43 : decode cX5_apart 43 = .ok (.lload_n 3, 1) := by decide +kernel
theorem dX5_apart_44 : decode cX5_apart 44 = .ok (.aload_n 0, 1) := by decide +kernel
theorem dX5_apart_45 : decode cX5_apart 45 = .ok (.iload_n 1, 1) := by decide +kernel
theorem dX5_apart_46 : decode cX5_apart 46 = .ok (.iload 5, 2) := by decide +kernel
theorem dX5_apart_48 : decode cX5_apart 48 = .ok (.invokevirtual 174, 3) := by decide +kernel
theorem dX5_apart_51 : decode cX5_apart 51 = .ok (.i2l, 1) := by decide +kernel
theorem dX5_apart_52 : decode cX5_apart 52 = .ok (.aload_n 0, 1) := by decide +kernel
theorem dX5_apart_53 : decode cX5_apart 53 = .ok (.getfield 75, 3) := by decide +kernel
theorem dX5_apart_56 : decode cX5_apart 56 = .ok (.iload_n 2, 1) := by decide +kernel
theorem dX5_apart_57 : decode cX5_apart 57 = .ok (.iload 5, 2) := by decide +kernel
theorem dX5_apart_59 : decode cX5_apart 59 = .ok (.iconst (-1), 1) := by decide +kernel
theorem dX5_apart_60 : decode cX5_apart 60 = .ok (.ixor, 1) := by decide +kernel
theorem dX5_apart_61 : decode cX5_apart 61 = .ok (.iand, 1) := by decide +kernel
theorem dX5_apart_62 : decode cX5_apart 62 = .ok (.iaload, 1) := by decide +kernel
theorem dX5_apart_63 : decode cX5_apart 63 = .ok (.i2l, 1) := by decide +kernel
theorem dX5_apart_64 : decode cX5_apart 64 = .ok (.lmul, 1) := by decide +kernel
theorem dX5_apart_65 : decode cX5_apart 65 = .ok (.ldc2_w 166, 3) := by decide +kernel
theorem dX5_apart_68 : decode cX5_apart 68 = .ok (.lrem, 1) := by decide +kernel
theorem dX5_apart_69 : decode cX5_apart 69 = .ok (.ladd, 1) := by decide +kernel
theorem dX5_apart_70 : decode cX5_apart 70 = .ok (.lstore_n 3, 1) := by decide +kernel
theorem dX5_apart_71 : decode cX5_apart 71 = .ok (.iload 5, 2) := by decide +kernel
theorem dX5_apart_73 : decode cX5_apart 73 = .ok (.ifCond .ne 6, 3) := by decide +kernel
theorem dX5_apart_76 : decode cX5_apart 76 = .ok (.goto 14, 3) := by decide +kernel
theorem dX5_apart_79 : decode cX5_apart 79 = .ok (.iload 5, 2) := by decide +kernel
theorem dX5_apart_81 : decode cX5_apart 81 = .ok (.iconst 1, 1) := by decide +kernel
theorem dX5_apart_82 : decode cX5_apart 82 = .ok (.isub, 1) := by decide +kernel
theorem dX5_apart_83 : decode cX5_apart 83 = .ok (.iload_n 2, 1) := by decide +kernel
theorem dX5_apart_84 : decode cX5_apart 84 = .ok (.iand, 1) := by decide +kernel
theorem dX5_apart_85 : decode cX5_apart 85 = .ok (.istore 5, 2) := by decide +kernel
theorem dX5_apart_87 : decode cX5_apart 87 = .ok (.goto (-44), 3) := by decide +kernel
theorem dX5_apart_90 : decode cX5_apart 90 = .ok (.aload_n 0, 1) := by decide +kernel
theorem dX5_apart_91 : decode cX5_apart 91 = .ok (.getfield 72, 3) := by decide +kernel
theorem dX5_apart_94 : decode cX5_apart 94 = .ok (.iload_n 2, 1) := by decide +kernel
theorem dX5_apart_95 : decode cX5_apart 95 = .ok (.lload_n 3, 1) := by decide +kernel
theorem dX5_apart_96 : decode cX5_apart 96 = .ok (.invokestatic 178, 3) := by decide +kernel
theorem dX5_apart_99 : decode cX5_apart 99 = .ok (.iastore, 1) := by decide +kernel
theorem dX5_apart_100 : decode cX5_apart 100 = .ok (.iinc 2 1, 3) := by decide +kernel
theorem dX5_apart_103 : decode cX5_apart 103 = .ok (.goto (-73), 3) := by decide +kernel
theorem dX5_apart_106 : decode cX5_apart 106 = .ok (.return_, 1) := by decide +kernel
theorem dX5_laysOne_0 : decode cX5_laysOne 0 = .ok (.iconst 0, 1) := by decide +kernel
theorem dX5_laysOne_1 : decode cX5_laysOne 1 = .ok (.istore_n 1, 1) := by decide +kernel
theorem dX5_laysOne_2 : decode cX5_laysOne 2 = .ok (.iload_n 1, 1) := by decide +kernel
theorem dX5_laysOne_3 : decode cX5_laysOne 3 = .ok (.aload_n 0, 1) := by decide +kernel
theorem dX5_laysOne_4 : decode cX5_laysOne 4 = .ok (.invokevirtual 151, 3) := by decide +kernel
theorem dX5_laysOne_7 : decode cX5_laysOne 7 = .ok (.if_icmp .gt 24, 3) := by decide +kernel
theorem dX5_laysOne_10 : decode cX5_laysOne 10 = .ok (.aload_n 0, 1) := by decide +kernel
theorem dX5_laysOne_11 : decode cX5_laysOne 11 = .ok (.getfield 72, 3) := by decide +kernel
theorem dX5_laysOne_14 : decode cX5_laysOne 14 = .ok (.iload_n 1, 1) := by decide +kernel
theorem dX5_laysOne_15 : decode cX5_laysOne 15 = .ok (.iload_n 1, 1) := by decide +kernel
theorem dX5_laysOne_16 : decode cX5_laysOne 16 = .ok (.ifCond .ne 7, 3) := by decide +kernel
theorem dX5_laysOne_19 : decode cX5_laysOne 19 = .ok (.iconst 1, 1) := by decide +kernel
theorem dX5_laysOne_20 : decode cX5_laysOne 20 = .ok (.goto 4, 3) := by decide +kernel
theorem dX5_laysOne_23 : decode cX5_laysOne 23 = .ok (.iconst 0, 1) := by decide +kernel
theorem dX5_laysOne_24 : decode cX5_laysOne 24 = .ok (.iastore, 1) := by decide +kernel
theorem dX5_laysOne_25 : decode cX5_laysOne 25 = .ok (.iinc 1 1, 3) := by decide +kernel
theorem dX5_laysOne_28 : decode cX5_laysOne 28 = .ok (.goto (-26), 3) := by decide +kernel
theorem dX5_laysOne_31 : decode cX5_laysOne 31 = .ok (.return_, 1) := by decide +kernel
theorem dX5_power_0 : decode cX5_power 0 = .ok (.aload_n 0, 1) := by decide +kernel
theorem dX5_power_1 : decode cX5_power 1 = .ok (.iconst 0, 1) := by decide +kernel
theorem dX5_power_2 : decode cX5_power 2 = .ok (.putfield 1, 3) := by decide +kernel
theorem dX5_power_5 : decode cX5_power 5 = .ok (.aload_n 0, 1) := by decide +kernel
theorem dX5_power_6 : decode cX5_power 6 = .ok (.iload_n 1, 1) := by decide +kernel
theorem dX5_power_7 : decode cX5_power 7 = .ok (.invokevirtual 171, 3) := by decide +kernel
theorem dX5_power_10 : decode cX5_power 10 = .ok (.ifCond .eq 21, 3) := by decide +kernel
theorem dX5_power_13 : decode cX5_power 13 = .ok (.aload_n 0, 1) := by decide +kernel
theorem dX5_power_14 : decode cX5_power 14 = .ok (.iload_n 3, 1) := by decide +kernel
theorem dX5_power_15 : decode cX5_power 15 = .ok (.invokevirtual 171, 3) := by decide +kernel
theorem dX5_power_18 : decode cX5_power 18 = .ok (.ifCond .eq 13, 3) := by decide +kernel
theorem dX5_power_21 : decode cX5_power 21 = .ok (.iload_n 2, 1) := by decide +kernel
theorem dX5_power_22 : decode cX5_power 22 = .ok (.iconst 0, 1) := by decide +kernel
theorem dX5_power_23 : decode cX5_power 23 = .ok (.bipush 99, 2) := by decide +kernel
theorem dX5_power_25 : decode cX5_power 25 = .ok (.invokestatic 99, 3) := by decide +kernel
theorem dX5_power_28 : decode cX5_power 28 = .ok (.ifCond .ne 5, 3) := by decide +kernel
theorem dX5_power_31 : decode cX5_power 31 = .ok (.iconst (-1), 1) := by decide +kernel
theorem dX5_power_32 : decode cX5_power 32 = .ok (.ireturn, 1) := by decide +kernel
theorem dX5_power_33 : decode cX5_power 33 = .ok (.aload_n 0, 1) := by decide +kernel
theorem dX5_power_34 : decode cX5_power 34 = .ok (.invokevirtual 209, 3) := by decide +kernel
theorem dX5_power_37 : decode cX5_power 37 = .ok (.iconst 0, 1) := by decide +kernel
theorem dX5_power_38 : decode cX5_power 38 = .ok (.istore 4, 2) := by decide +kernel
theorem dX5_power_40 : decode cX5_power 40 = .ok (.iload 4, 2) := by decide +kernel
theorem dX5_power_42 : decode cX5_power 42 = .ok (.iload_n 2, 1) := by decide +kernel
theorem dX5_power_43 : decode cX5_power 43 = .ok (.if_icmp .ge 14, 3) := by decide +kernel
theorem dX5_power_46 : decode cX5_power 46 = .ok (.aload_n 0, 1) := by decide +kernel
theorem dX5_power_47 : decode cX5_power 47 = .ok (.iload_n 1, 1) := by decide +kernel
theorem dX5_power_48 : decode cX5_power 48 = .ok (.invokevirtual 212, 3) := by decide +kernel
theorem dX5_power_51 : decode cX5_power 51 = .ok (.iinc 4 1, 3) := by decide +kernel
theorem dX5_power_54 : decode cX5_power 54 = .ok (.goto (-14), 3) := by decide +kernel
theorem dX5_power_57 : decode cX5_power 57 = .ok (.aload_n 0, 1) := by decide +kernel
theorem dX5_power_58 : decode cX5_power 58 = .ok (.iload_n 3, 1) := by decide +kernel
theorem dX5_power_59 : decode cX5_power 59 = .ok (.aload_n 0, 1) := by decide +kernel
theorem dX5_power_60 : decode cX5_power 60 = .ok (.invokevirtual 151, 3) := by decide +kernel
theorem dX5_power_63 : decode cX5_power 63 = .ok (.invokevirtual 191, 3) := by decide +kernel
theorem dX5_power_66 : decode cX5_power 66 = .ok (.ireturn, 1) := by decide +kernel
theorem dX5_turned_0 : decode cX5_turned 0 = .ok (.lload_n 0, 1) := by decide +kernel
theorem dX5_turned_1 : decode cX5_turned 1 = .ok (.lstore_n 2, 1) := by decide +kernel
theorem dX5_turned_2 : decode cX5_turned 2 = .ok (.lconst 1, 1) := by decide +kernel
theorem dX5_turned_3 : decode cX5_turned 3 = .ok (.lstore 4, 2) := by decide +kernel
theorem dX5_turned_5 : decode cX5_turned 5 = .ok (.ldc 215, 2) := by decide +kernel
theorem dX5_turned_7 : decode cX5_turned 7 = .ok (.istore 6, 2) := by decide +kernel
theorem dX5_turned_9 : decode cX5_turned 9 = .ok (.iload 6, 2) := by decide +kernel
theorem dX5_turned_11 : decode cX5_turned 11 = .ok (.ifCond .le 38, 3) := by decide +kernel
theorem dX5_turned_14 : decode cX5_turned 14 = .ok (.iload 6, 2) := by decide +kernel
theorem dX5_turned_16 : decode cX5_turned 16 = .ok (.iconst 1, 1) := by decide +kernel
theorem dX5_turned_17 : decode cX5_turned 17 = .ok (.iand, 1) := by decide +kernel
theorem dX5_turned_18 : decode cX5_turned 18 = .ok (.iconst 1, 1) := by decide +kernel
theorem dX5_turned_19 : decode cX5_turned 19 = .ok (.if_icmp .ne 13, 3) := by decide +kernel
theorem dX5_turned_22 : decode cX5_turned 22 = .ok (.lload 4, 2) := by decide +kernel
theorem dX5_turned_24 : decode cX5_turned 24 = .ok (.lload_n 2, 1) := by decide +kernel
theorem dX5_turned_25 : decode cX5_turned 25 = .ok (.lmul, 1) := by decide +kernel
theorem dX5_turned_26 : decode cX5_turned 26 = .ok (.ldc2_w 166, 3) := by decide +kernel
theorem dX5_turned_29 : decode cX5_turned 29 = .ok (.lrem, 1) := by decide +kernel
theorem dX5_turned_30 : decode cX5_turned 30 = .ok (.lstore 4, 2) := by decide +kernel
theorem dX5_turned_32 : decode cX5_turned 32 = .ok (.lload_n 2, 1) := by decide +kernel
theorem dX5_turned_33 : decode cX5_turned 33 = .ok (.lload_n 2, 1) := by decide +kernel
theorem dX5_turned_34 : decode cX5_turned 34 = .ok (.lmul, 1) := by decide +kernel
theorem dX5_turned_35 : decode cX5_turned 35 = .ok (.ldc2_w 166, 3) := by decide +kernel
theorem dX5_turned_38 : decode cX5_turned 38 = .ok (.lrem, 1) := by decide +kernel
theorem dX5_turned_39 : decode cX5_turned 39 = .ok (.lstore_n 2, 1) := by decide +kernel
theorem dX5_turned_40 : decode cX5_turned 40 = .ok (.iload 6, 2) := by decide +kernel
theorem dX5_turned_42 : decode cX5_turned 42 = .ok (.iconst 1, 1) := by decide +kernel
theorem dX5_turned_43 : decode cX5_turned 43 = .ok (.ishr, 1) := by decide +kernel
theorem dX5_turned_44 : decode cX5_turned 44 = .ok (.istore 6, 2) := by decide +kernel
theorem dX5_turned_46 : decode cX5_turned 46 = .ok (.goto (-37), 3) := by decide +kernel
theorem dX5_turned_49 : decode cX5_turned 49 = .ok (.lload 4, 2) := by decide +kernel
theorem dX5_turned_51 : decode cX5_turned 51 = .ok (.lreturn, 1) := by decide +kernel
theorem dX5_inverse_0 : decode cX5_inverse 0 = .ok (.aload_n 0, 1) := by decide +kernel
theorem dX5_inverse_1 : decode cX5_inverse 1 = .ok (.iconst 0, 1) := by decide +kernel
theorem dX5_inverse_2 : decode cX5_inverse 2 = .ok (.putfield 1, 3) := by decide +kernel
theorem dX5_inverse_5 : decode cX5_inverse 5 = .ok (.aload_n 0, 1) := by decide +kernel
theorem dX5_inverse_6 : decode cX5_inverse 6 = .ok (.iload_n 1, 1) := by decide +kernel
theorem dX5_inverse_7 : decode cX5_inverse 7 = .ok (.invokevirtual 171, 3) := by decide +kernel
theorem dX5_inverse_10 : decode cX5_inverse 10 = .ok (.ifCond .eq 20, 3) := by decide +kernel
theorem dX5_inverse_13 : decode cX5_inverse 13 = .ok (.aload_n 0, 1) := by decide +kernel
theorem dX5_inverse_14 : decode cX5_inverse 14 = .ok (.iload_n 2, 1) := by decide +kernel
theorem dX5_inverse_15 : decode cX5_inverse 15 = .ok (.invokevirtual 171, 3) := by decide +kernel
theorem dX5_inverse_18 : decode cX5_inverse 18 = .ok (.ifCond .eq 12, 3) := by decide +kernel
theorem dX5_inverse_21 : decode cX5_inverse 21 = .ok (.aload_n 0, 1) := by decide +kernel
theorem dX5_inverse_22 : decode cX5_inverse 22 = .ok (.iload_n 1, 1) := by decide +kernel
theorem dX5_inverse_23 : decode cX5_inverse 23 = .ok (.iconst 0, 1) := by decide +kernel
theorem dX5_inverse_24 : decode cX5_inverse 24 = .ok (.invokevirtual 174, 3) := by decide +kernel
theorem dX5_inverse_27 : decode cX5_inverse 27 = .ok (.ifCond .ne 5, 3) := by decide +kernel
theorem dX5_inverse_30 : decode cX5_inverse 30 = .ok (.iconst (-1), 1) := by decide +kernel
theorem dX5_inverse_31 : decode cX5_inverse 31 = .ok (.ireturn, 1) := by decide +kernel
theorem dX5_inverse_32 : decode cX5_inverse 32 = .ok (.aload_n 0, 1) := by decide +kernel
theorem dX5_inverse_33 : decode cX5_inverse 33 = .ok (.iload_n 1, 1) := by decide +kernel
theorem dX5_inverse_34 : decode cX5_inverse 34 = .ok (.iconst 0, 1) := by decide +kernel
theorem dX5_inverse_35 : decode cX5_inverse 35 = .ok (.invokevirtual 174, 3) := by decide +kernel
theorem dX5_inverse_38 : decode cX5_inverse 38 = .ok (.i2l, 1) := by decide +kernel
theorem dX5_inverse_39 : decode cX5_inverse 39 = .ok (.invokestatic 216, 3) := by decide +kernel
theorem dX5_inverse_42 : decode cX5_inverse 42 = .ok (.lstore_n 3, 1) := by decide +kernel
theorem dX5_inverse_43 : decode cX5_inverse 43 = .ok (.aload_n 0, 1) := by decide +kernel
theorem dX5_inverse_44 : decode cX5_inverse 44 = .ok (.getfield 72, 3) := by decide +kernel
theorem dX5_inverse_47 : decode cX5_inverse 47 = .ok (.iconst 0, 1) := by decide +kernel
theorem dX5_inverse_48 : decode cX5_inverse 48 = .ok (.lload_n 3, 1) := by decide +kernel
theorem dX5_inverse_49 : decode cX5_inverse 49 = .ok (.l2i, 1) := by decide +kernel
theorem dX5_inverse_50 : decode cX5_inverse 50 = .ok (.iastore, 1) := by decide +kernel
theorem dX5_inverse_51 : decode cX5_inverse 51 = .ok (.iconst 1, 1) := by decide +kernel
theorem dX5_inverse_52 : decode cX5_inverse 52 = .ok (.istore 5, 2) := by decide +kernel
theorem dX5_inverse_54 : decode cX5_inverse 54 = .ok (.iload 5, 2) := by decide +kernel
theorem dX5_inverse_56 : decode cX5_inverse 56 = .ok (.aload_n 0, 1) := by decide +kernel
theorem dX5_inverse_57 : decode cX5_inverse 57 = .ok (.invokevirtual 151, 3) := by decide +kernel
theorem dX5_inverse_60 : decode cX5_inverse 60 = .ok (.if_icmp .gt 83, 3) := by decide +kernel
theorem dX5_inverse_63 : decode cX5_inverse 63 = .ok (.lconst 0, 1) := by decide +kernel
theorem dX5_inverse_64 : decode cX5_inverse 64 = .ok (.lstore 6, 2) := by decide +kernel
theorem dX5_inverse_66 : decode cX5_inverse 66 = .ok (.iload 5, 2) := by decide +kernel
theorem dX5_inverse_68 : decode cX5_inverse 68 = .ok (.istore 8, 2) := by decide +kernel
theorem dX5_inverse_70 : decode cX5_inverse 70 = .ok (.iload 8, 2) := by decide +kernel
theorem dX5_inverse_72 : decode cX5_inverse 72 = .ok (.ifCond .le 46, 3) := by decide +kernel
theorem dX5_inverse_75 : decode cX5_inverse 75 = .ok (.lload 6, 2) := by decide +kernel
theorem dX5_inverse_77 : decode cX5_inverse 77 = .ok (.aload_n 0, 1) := by decide +kernel
theorem dX5_inverse_78 : decode cX5_inverse 78 = .ok (.iload_n 1, 1) := by decide +kernel
theorem dX5_inverse_79 : decode cX5_inverse 79 = .ok (.iload 8, 2) := by decide +kernel
theorem dX5_inverse_81 : decode cX5_inverse 81 = .ok (.invokevirtual 174, 3) := by decide +kernel
theorem dX5_inverse_84 : decode cX5_inverse 84 = .ok (.i2l, 1) := by decide +kernel
theorem dX5_inverse_85 : decode cX5_inverse 85 = .ok (.aload_n 0, 1) := by decide +kernel
theorem dX5_inverse_86 : decode cX5_inverse 86 = .ok (.getfield 72, 3) := by decide +kernel
theorem dX5_inverse_89 : decode cX5_inverse 89 = .ok (.iload 5, 2) := by decide +kernel
theorem dX5_inverse_91 : decode cX5_inverse 91 = .ok (.iload 8, 2) := by decide +kernel
theorem dX5_inverse_93 : decode cX5_inverse 93 = .ok (.iconst (-1), 1) := by decide +kernel
theorem dX5_inverse_94 : decode cX5_inverse 94 = .ok (.ixor, 1) := by decide +kernel
theorem dX5_inverse_95 : decode cX5_inverse 95 = .ok (.iand, 1) := by decide +kernel
theorem dX5_inverse_96 : decode cX5_inverse 96 = .ok (.iaload, 1) := by decide +kernel
theorem dX5_inverse_97 : decode cX5_inverse 97 = .ok (.i2l, 1) := by decide +kernel
theorem dX5_inverse_98 : decode cX5_inverse 98 = .ok (.lmul, 1) := by decide +kernel
theorem dX5_inverse_99 : decode cX5_inverse 99 = .ok (.ldc2_w 166, 3) := by decide +kernel
theorem dX5_inverse_102 : decode cX5_inverse 102 = .ok (.lrem, 1) := by decide +kernel
theorem dX5_inverse_103 : decode cX5_inverse 103 = .ok (.ladd, 1) := by decide +kernel
theorem dX5_inverse_104 : decode cX5_inverse 104 = .ok (.lstore 6, 2) := by decide +kernel
theorem dX5_inverse_106 : decode cX5_inverse 106 = .ok (.iload 8, 2) := by decide +kernel
theorem dX5_inverse_108 : decode cX5_inverse 108 = .ok (.iconst 1, 1) := by decide +kernel
theorem dX5_inverse_109 : decode cX5_inverse 109 = .ok (.isub, 1) := by decide +kernel
theorem dX5_inverse_110 : decode cX5_inverse 110 = .ok (.iload 5, 2) := by decide +kernel
theorem dX5_inverse_112 : decode cX5_inverse 112 = .ok (.iand, 1) := by decide +kernel
theorem dX5_inverse_113 : decode cX5_inverse 113 = .ok (.istore 8, 2) := by decide +kernel
theorem dX5_inverse_115 : decode cX5_inverse 115 = .ok (.goto (-45), 3) := by decide +kernel
theorem dX5_inverse_118 : decode cX5_inverse 118 = .ok (.aload_n 0, 1) := by decide +kernel
theorem dX5_inverse_119 : decode cX5_inverse 119 = .ok (.getfield 72, 3) := by decide +kernel
theorem dX5_inverse_122 : decode cX5_inverse 122 = .ok (.iload 5, 2) := by decide +kernel
theorem dX5_inverse_124 : decode cX5_inverse 124 = .ok (.lload 6, 2) := by decide +kernel
theorem dX5_inverse_126 : decode cX5_inverse 126 = .ok (.ldc2_w 166, 3) := by decide +kernel
theorem dX5_inverse_129 : decode cX5_inverse 129 = .ok (.lrem, 1) := by decide +kernel
theorem dX5_inverse_130 : decode cX5_inverse 130 = .ok (.lneg, 1) := by decide +kernel
theorem dX5_inverse_131 : decode cX5_inverse 131 = .ok (.lload_n 3, 1) := by decide +kernel
theorem dX5_inverse_132 : decode cX5_inverse 132 = .ok (.lmul, 1) := by decide +kernel
theorem dX5_inverse_133 : decode cX5_inverse 133 = .ok (.invokestatic 178, 3) := by decide +kernel
theorem dX5_inverse_136 : decode cX5_inverse 136 = .ok (.iastore, 1) := by decide +kernel
theorem dX5_inverse_137 : decode cX5_inverse 137 = .ok (.iinc 5 1, 3) := by decide +kernel
theorem dX5_inverse_140 : decode cX5_inverse 140 = .ok (.goto (-86), 3) := by decide +kernel
theorem dX5_inverse_143 : decode cX5_inverse 143 = .ok (.aload_n 0, 1) := by decide +kernel
theorem dX5_inverse_144 : decode cX5_inverse 144 = .ok (.iload_n 2, 1) := by decide +kernel
theorem dX5_inverse_145 : decode cX5_inverse 145 = .ok (.aload_n 0, 1) := by decide +kernel
theorem dX5_inverse_146 : decode cX5_inverse 146 = .ok (.invokevirtual 151, 3) := by decide +kernel
theorem dX5_inverse_149 : decode cX5_inverse 149 = .ok (.invokevirtual 191, 3) := by decide +kernel
theorem dX5_inverse_152 : decode cX5_inverse 152 = .ok (.ireturn, 1) := by decide +kernel
theorem dX5_allWays_0 : decode cX5_allWays 0 = .ok (.aload_n 0, 1) := by decide +kernel
theorem dX5_allWays_1 : decode cX5_allWays 1 = .ok (.iconst 0, 1) := by decide +kernel
theorem dX5_allWays_2 : decode cX5_allWays 2 = .ok (.putfield 1, 3) := by decide +kernel
theorem dX5_allWays_5 : decode cX5_allWays 5 = .ok (.aload_n 0, 1) := by decide +kernel
theorem dX5_allWays_6 : decode cX5_allWays 6 = .ok (.iload_n 1, 1) := by decide +kernel
theorem dX5_allWays_7 : decode cX5_allWays 7 = .ok (.invokevirtual 171, 3) := by decide +kernel
theorem dX5_allWays_10 : decode cX5_allWays 10 = .ok (.ifCond .eq 20, 3) := by decide +kernel
theorem dX5_allWays_13 : decode cX5_allWays 13 = .ok (.aload_n 0, 1) := by decide +kernel
theorem dX5_allWays_14 : decode cX5_allWays 14 = .ok (.iload_n 2, 1) := by decide +kernel
theorem dX5_allWays_15 : decode cX5_allWays 15 = .ok (.invokevirtual 171, 3) := by decide +kernel
theorem dX5_allWays_18 : decode cX5_allWays 18 = .ok (.ifCond .eq 12, 3) := by decide +kernel
theorem dX5_allWays_21 : decode cX5_allWays 21 = .ok (.aload_n 0, 1) := by decide +kernel
theorem dX5_allWays_22 : decode cX5_allWays 22 = .ok (.iload_n 1, 1) := by decide +kernel
theorem dX5_allWays_23 : decode cX5_allWays 23 = .ok (.iconst 0, 1) := by decide +kernel
theorem dX5_allWays_24 : decode cX5_allWays 24 = .ok (.invokevirtual 174, 3) := by decide +kernel
theorem dX5_allWays_27 : decode cX5_allWays 27 = .ok (.ifCond .eq 5, 3) := by decide +kernel
theorem dX5_allWays_30 : decode cX5_allWays 30 = .ok (.iconst (-1), 1) := by decide +kernel
theorem dX5_allWays_31 : decode cX5_allWays 31 = .ok (.ireturn, 1) := by decide +kernel
theorem dX5_allWays_32 : decode cX5_allWays 32 = .ok (.aload_n 0, 1) := by decide +kernel
theorem dX5_allWays_33 : decode cX5_allWays 33 = .ok (.getfield 72, 3) := by decide +kernel
theorem dX5_allWays_36 : decode cX5_allWays 36 = .ok (.iconst 0, 1) := by decide +kernel
theorem dX5_allWays_37 : decode cX5_allWays 37 = .ok (.iconst 1, 1) := by decide +kernel
theorem dX5_allWays_38 : decode cX5_allWays 38 = .ok (.iastore, 1) := by decide +kernel
theorem dX5_allWays_39 : decode cX5_allWays 39 = .ok (.iconst 1, 1) := by decide +kernel
theorem dX5_allWays_40 : decode cX5_allWays 40 = .ok (.istore_n 3, 1) := by decide +kernel
theorem dX5_allWays_41 : decode cX5_allWays 41 = .ok (.iload_n 3, 1) := by decide +kernel
theorem dX5_allWays_42 : decode cX5_allWays 42 = .ok (.aload_n 0, 1) := by decide +kernel
theorem dX5_allWays_43 : decode cX5_allWays 43 = .ok (.invokevirtual 151, 3) := by decide +kernel
theorem dX5_allWays_46 : decode cX5_allWays 46 = .ok (.if_icmp .gt 82, 3) := by decide +kernel
theorem dX5_allWays_49 : decode cX5_allWays 49 = .ok (.lconst 0, 1) := by decide +kernel
theorem dX5_allWays_50 : decode cX5_allWays 50 = .ok (.lstore 4, 2) := by decide +kernel
theorem dX5_allWays_52 : decode cX5_allWays 52 = .ok (.iload_n 3, 1) := by decide +kernel
theorem dX5_allWays_53 : decode cX5_allWays 53 = .ok (.istore 6, 2) := by decide +kernel
theorem dX5_allWays_55 : decode cX5_allWays 55 = .ok (.iload 6, 2) := by decide +kernel
theorem dX5_allWays_57 : decode cX5_allWays 57 = .ok (.ifCond .le 54, 3) := by decide +kernel
theorem dX5_allWays_60 : decode cX5_allWays 60 = .ok (.iload 6, 2) := by decide +kernel
theorem dX5_allWays_62 : decode cX5_allWays 62 = .ok (.iload_n 3, 1) := by decide +kernel
theorem dX5_allWays_63 : decode cX5_allWays 63 = .ok (.iand, 1) := by decide +kernel
theorem dX5_allWays_64 : decode cX5_allWays 64 = .ok (.iload_n 3, 1) := by decide +kernel
theorem dX5_allWays_65 : decode cX5_allWays 65 = .ok (.ineg, 1) := by decide +kernel
theorem dX5_allWays_66 : decode cX5_allWays 66 = .ok (.iand, 1) := by decide +kernel
theorem dX5_allWays_67 : decode cX5_allWays 67 = .ok (.ifCond .eq 33, 3) := by decide +kernel
theorem dX5_allWays_70 : decode cX5_allWays 70 = .ok (.lload 4, 2) := by decide +kernel
theorem dX5_allWays_72 : decode cX5_allWays 72 = .ok (.aload_n 0, 1) := by decide +kernel
theorem dX5_allWays_73 : decode cX5_allWays 73 = .ok (.iload_n 1, 1) := by decide +kernel
theorem dX5_allWays_74 : decode cX5_allWays 74 = .ok (.iload 6, 2) := by decide +kernel
theorem dX5_allWays_76 : decode cX5_allWays 76 = .ok (.invokevirtual 174, 3) := by decide +kernel
theorem dX5_allWays_79 : decode cX5_allWays 79 = .ok (.i2l, 1) := by decide +kernel
theorem dX5_allWays_80 : decode cX5_allWays 80 = .ok (.aload_n 0, 1) := by decide +kernel
theorem dX5_allWays_81 : decode cX5_allWays 81 = .ok (.getfield 72, 3) := by decide +kernel
theorem dX5_allWays_84 : decode cX5_allWays 84 = .ok (.iload_n 3, 1) := by decide +kernel
theorem dX5_allWays_85 : decode cX5_allWays 85 = .ok (.iload 6, 2) := by decide +kernel
theorem dX5_allWays_87 : decode cX5_allWays 87 = .ok (.iconst (-1), 1) := by decide +kernel
theorem dX5_allWays_88 : decode cX5_allWays 88 = .ok (.ixor, 1) := by decide +kernel
theorem dX5_allWays_89 : decode cX5_allWays 89 = .ok (.iand, 1) := by decide +kernel
theorem dX5_allWays_90 : decode cX5_allWays 90 = .ok (.iaload, 1) := by decide +kernel
theorem dX5_allWays_91 : decode cX5_allWays 91 = .ok (.i2l, 1) := by decide +kernel
theorem dX5_allWays_92 : decode cX5_allWays 92 = .ok (.lmul, 1) := by decide +kernel
theorem dX5_allWays_93 : decode cX5_allWays 93 = .ok (.ldc2_w 166, 3) := by decide +kernel
theorem dX5_allWays_96 : decode cX5_allWays 96 = .ok (.lrem, 1) := by decide +kernel
theorem dX5_allWays_97 : decode cX5_allWays 97 = .ok (.ladd, 1) := by decide +kernel
theorem dX5_allWays_98 : decode cX5_allWays 98 = .ok (.lstore 4, 2) := by decide +kernel
theorem dX5_allWays_100 : decode cX5_allWays 100 = .ok (.iload 6, 2) := by decide +kernel
theorem dX5_allWays_102 : decode cX5_allWays 102 = .ok (.iconst 1, 1) := by decide +kernel
theorem dX5_allWays_103 : decode cX5_allWays 103 = .ok (.isub, 1) := by decide +kernel
theorem dX5_allWays_104 : decode cX5_allWays 104 = .ok (.iload_n 3, 1) := by decide +kernel
theorem dX5_allWays_105 : decode cX5_allWays 105 = .ok (.iand, 1) := by decide +kernel
theorem dX5_allWays_106 : decode cX5_allWays 106 = .ok (.istore 6, 2) := by decide +kernel
theorem dX5_allWays_108 : decode cX5_allWays 108 = .ok (.goto (-53), 3) := by decide +kernel
theorem dX5_allWays_111 : decode cX5_allWays 111 = .ok (.aload_n 0, 1) := by decide +kernel
theorem dX5_allWays_112 : decode cX5_allWays 112 = .ok (.getfield 72, 3) := by decide +kernel
theorem dX5_allWays_115 : decode cX5_allWays 115 = .ok (.iload_n 3, 1) := by decide +kernel
theorem dX5_allWays_116 : decode cX5_allWays 116 = .ok (.lload 4, 2) := by decide +kernel
theorem dX5_allWays_118 : decode cX5_allWays 118 = .ok (.invokestatic 178, 3) := by decide +kernel
theorem dX5_allWays_121 : decode cX5_allWays 121 = .ok (.iastore, 1) := by decide +kernel
theorem dX5_allWays_122 : decode cX5_allWays 122 = .ok (.iinc 3 1, 3) := by decide +kernel
theorem dX5_allWays_125 : decode cX5_allWays 125 = .ok (.goto (-84), 3) := by decide +kernel
theorem dX5_allWays_128 : decode cX5_allWays 128 = .ok (.aload_n 0, 1) := by decide +kernel
theorem dX5_allWays_129 : decode cX5_allWays 129 = .ok (.iload_n 2, 1) := by decide +kernel
theorem dX5_allWays_130 : decode cX5_allWays 130 = .ok (.aload_n 0, 1) := by decide +kernel
theorem dX5_allWays_131 : decode cX5_allWays 131 = .ok (.invokevirtual 151, 3) := by decide +kernel
theorem dX5_allWays_134 : decode cX5_allWays 134 = .ok (.invokevirtual 191, 3) := by decide +kernel
theorem dX5_allWays_137 : decode cX5_allWays 137 = .ok (.ireturn, 1) := by decide +kernel
theorem dX5_roots_0 : decode cX5_roots 0 = .ok (.aload_n 0, 1) := by decide +kernel
theorem dX5_roots_1 : decode cX5_roots 1 = .ok (.iconst 0, 1) := by decide +kernel
theorem dX5_roots_2 : decode cX5_roots 2 = .ok (.putfield 1, 3) := by decide +kernel
theorem dX5_roots_5 : decode cX5_roots 5 = .ok (.aload_n 0, 1) := by decide +kernel
theorem dX5_roots_6 : decode cX5_roots 6 = .ok (.iload_n 1, 1) := by decide +kernel
theorem dX5_roots_7 : decode cX5_roots 7 = .ok (.invokevirtual 171, 3) := by decide +kernel
theorem dX5_roots_10 : decode cX5_roots 10 = .ok (.ifCond .eq 21, 3) := by decide +kernel
theorem dX5_roots_13 : decode cX5_roots 13 = .ok (.aload_n 0, 1) := by decide +kernel
theorem dX5_roots_14 : decode cX5_roots 14 = .ok (.iload_n 2, 1) := by decide +kernel
theorem dX5_roots_15 : decode cX5_roots 15 = .ok (.invokevirtual 171, 3) := by decide +kernel
theorem dX5_roots_18 : decode cX5_roots 18 = .ok (.ifCond .eq 13, 3) := by decide +kernel
theorem dX5_roots_21 : decode cX5_roots 21 = .ok (.aload_n 0, 1) := by decide +kernel
theorem dX5_roots_22 : decode cX5_roots 22 = .ok (.iload_n 1, 1) := by decide +kernel
theorem dX5_roots_23 : decode cX5_roots 23 = .ok (.iconst 0, 1) := by decide +kernel
theorem dX5_roots_24 : decode cX5_roots 24 = .ok (.invokevirtual 174, 3) := by decide +kernel
theorem dX5_roots_27 : decode cX5_roots 27 = .ok (.iconst 1, 1) := by decide +kernel
theorem dX5_roots_28 : decode cX5_roots 28 = .ok (.if_icmp .eq 5, 3) := by decide +kernel
theorem dX5_roots_31 : decode cX5_roots 31 = .ok (.iconst (-1), 1) := by decide +kernel
theorem dX5_roots_32 : decode cX5_roots 32 = .ok (.ireturn, 1) := by decide +kernel
theorem dX5_roots_33 : decode cX5_roots 33 = .ok (.aload_n 0, 1) := by decide +kernel
theorem dX5_roots_34 : decode cX5_roots 34 = .ok (.getfield 72, 3) := by decide +kernel
theorem dX5_roots_37 : decode cX5_roots 37 = .ok (.iconst 0, 1) := by decide +kernel
theorem dX5_roots_38 : decode cX5_roots 38 = .ok (.iconst 0, 1) := by decide +kernel
theorem dX5_roots_39 : decode cX5_roots 39 = .ok (.iastore, 1) := by decide +kernel
theorem dX5_roots_40 : decode cX5_roots 40 = .ok (.iconst 1, 1) := by decide +kernel
theorem dX5_roots_41 : decode cX5_roots 41 = .ok (.istore_n 3, 1) := by decide +kernel
theorem dX5_roots_42 : decode cX5_roots 42 = .ok (.iload_n 3, 1) := by decide +kernel
theorem dX5_roots_43 : decode cX5_roots 43 = .ok (.aload_n 0, 1) := by decide +kernel
theorem dX5_roots_44 : decode cX5_roots 44 = .ok (.invokevirtual 151, 3) := by decide +kernel
theorem dX5_roots_47 : decode cX5_roots 47 = .ok (.if_icmp .gt 92, 3) := by decide +kernel
theorem dX5_roots_50 : decode cX5_roots 50 = .ok (.aload_n 0, 1) := by decide +kernel
theorem dX5_roots_51 : decode cX5_roots 51 = .ok (.iload_n 1, 1) := by decide +kernel
theorem dX5_roots_52 : decode cX5_roots 52 = .ok (.iload_n 3, 1) := by decide +kernel
theorem dX5_roots_53 : decode cX5_roots 53 = .ok (.invokevirtual 174, 3) := by decide +kernel
theorem dX5_roots_56 : decode cX5_roots 56 = .ok (.i2l, 1) := by decide +kernel
theorem dX5_roots_57 : decode cX5_roots 57 = .ok (.lstore 4, 2) := by decide +kernel
theorem dX5_roots_59 : decode cX5_roots 59 = .ok (.iload_n 3, 1) := by decide +kernel
theorem dX5_roots_60 : decode cX5_roots 60 = .ok (.iconst 1, 1) := by decide +kernel
theorem dX5_roots_61 : decode cX5_roots 61 = .ok (.isub, 1) := by decide +kernel
theorem dX5_roots_62 : decode cX5_roots 62 = .ok (.iload_n 3, 1) := by decide +kernel
theorem dX5_roots_63 : decode cX5_roots 63 = .ok (.iand, 1) := by decide +kernel
theorem dX5_roots_64 : decode cX5_roots 64 = .ok (.istore 6, 2) := by decide +kernel
theorem dX5_roots_66 : decode cX5_roots 66 = .ok (.iload 6, 2) := by decide +kernel
theorem dX5_roots_68 : decode cX5_roots 68 = .ok (.ifCond .le 54, 3) := by decide +kernel
theorem dX5_roots_71 : decode cX5_roots 71 = .ok (.iload 6, 2) := by decide +kernel
theorem dX5_roots_73 : decode cX5_roots 73 = .ok (.iload_n 3, 1) := by decide +kernel
theorem dX5_roots_74 : decode cX5_roots 74 = .ok (.iand, 1) := by decide +kernel
theorem dX5_roots_75 : decode cX5_roots 75 = .ok (.iload_n 3, 1) := by decide +kernel
theorem dX5_roots_76 : decode cX5_roots 76 = .ok (.ineg, 1) := by decide +kernel
theorem dX5_roots_77 : decode cX5_roots 77 = .ok (.iand, 1) := by decide +kernel
theorem dX5_roots_78 : decode cX5_roots 78 = .ok (.ifCond .eq 33, 3) := by decide +kernel
theorem dX5_roots_81 : decode cX5_roots 81 = .ok (.lload 4, 2) := by decide +kernel
theorem dX5_roots_83 : decode cX5_roots 83 = .ok (.aload_n 0, 1) := by decide +kernel
theorem dX5_roots_84 : decode cX5_roots 84 = .ok (.getfield 72, 3) := by decide +kernel
theorem dX5_roots_87 : decode cX5_roots 87 = .ok (.iload 6, 2) := by decide +kernel
theorem dX5_roots_89 : decode cX5_roots 89 = .ok (.iaload, 1) := by decide +kernel
theorem dX5_roots_90 : decode cX5_roots 90 = .ok (.i2l, 1) := by decide +kernel
theorem dX5_roots_91 : decode cX5_roots 91 = .ok (.aload_n 0, 1) := by decide +kernel
theorem dX5_roots_92 : decode cX5_roots 92 = .ok (.iload_n 1, 1) := by decide +kernel
theorem dX5_roots_93 : decode cX5_roots 93 = .ok (.iload_n 3, 1) := by decide +kernel
theorem dX5_roots_94 : decode cX5_roots 94 = .ok (.iload 6, 2) := by decide +kernel
theorem dX5_roots_96 : decode cX5_roots 96 = .ok (.iconst (-1), 1) := by decide +kernel
theorem dX5_roots_97 : decode cX5_roots 97 = .ok (.ixor, 1) := by decide +kernel
theorem dX5_roots_98 : decode cX5_roots 98 = .ok (.iand, 1) := by decide +kernel
theorem dX5_roots_99 : decode cX5_roots 99 = .ok (.invokevirtual 174, 3) := by decide +kernel
theorem dX5_roots_102 : decode cX5_roots 102 = .ok (.i2l, 1) := by decide +kernel
theorem dX5_roots_103 : decode cX5_roots 103 = .ok (.lmul, 1) := by decide +kernel
theorem dX5_roots_104 : decode cX5_roots 104 = .ok (.ldc2_w 166, 3) := by decide +kernel
theorem dX5_roots_107 : decode cX5_roots 107 = .ok (.lrem, 1) := by decide +kernel
theorem dX5_roots_108 : decode cX5_roots 108 = .ok (.lsub, 1) := by decide +kernel
theorem dX5_roots_109 : decode cX5_roots 109 = .ok (.lstore 4, 2) := by decide +kernel
theorem dX5_roots_111 : decode cX5_roots 111 = .ok (.iload 6, 2) := by decide +kernel
theorem dX5_roots_113 : decode cX5_roots 113 = .ok (.iconst 1, 1) := by decide +kernel
theorem dX5_roots_114 : decode cX5_roots 114 = .ok (.isub, 1) := by decide +kernel
theorem dX5_roots_115 : decode cX5_roots 115 = .ok (.iload_n 3, 1) := by decide +kernel
theorem dX5_roots_116 : decode cX5_roots 116 = .ok (.iand, 1) := by decide +kernel
theorem dX5_roots_117 : decode cX5_roots 117 = .ok (.istore 6, 2) := by decide +kernel
theorem dX5_roots_119 : decode cX5_roots 119 = .ok (.goto (-53), 3) := by decide +kernel
theorem dX5_roots_122 : decode cX5_roots 122 = .ok (.aload_n 0, 1) := by decide +kernel
theorem dX5_roots_123 : decode cX5_roots 123 = .ok (.getfield 72, 3) := by decide +kernel
theorem dX5_roots_126 : decode cX5_roots 126 = .ok (.iload_n 3, 1) := by decide +kernel
theorem dX5_roots_127 : decode cX5_roots 127 = .ok (.lload 4, 2) := by decide +kernel
theorem dX5_roots_129 : decode cX5_roots 129 = .ok (.invokestatic 178, 3) := by decide +kernel
theorem dX5_roots_132 : decode cX5_roots 132 = .ok (.iastore, 1) := by decide +kernel
theorem dX5_roots_133 : decode cX5_roots 133 = .ok (.iinc 3 1, 3) := by decide +kernel
theorem dX5_roots_136 : decode cX5_roots 136 = .ok (.goto (-94), 3) := by decide +kernel
theorem dX5_roots_139 : decode cX5_roots 139 = .ok (.aload_n 0, 1) := by decide +kernel
theorem dX5_roots_140 : decode cX5_roots 140 = .ok (.iload_n 2, 1) := by decide +kernel
theorem dX5_roots_141 : decode cX5_roots 141 = .ok (.aload_n 0, 1) := by decide +kernel
theorem dX5_roots_142 : decode cX5_roots 142 = .ok (.invokevirtual 151, 3) := by decide +kernel
theorem dX5_roots_145 : decode cX5_roots 145 = .ok (.invokevirtual 191, 3) := by decide +kernel
