theorem dX2_readPair_79 : decode cX2_readPair 79 = .ok (.lload 4, 2) := by decide +kernel
theorem dX2_readPair_81 : decode cX2_readPair 81 = .ok (.land, 1) := by decide +kernel
theorem dX2_readPair_82 : decode cX2_readPair 82 = .ok (.lconst 0, 1) := by decide +kernel
theorem dX2_readPair_83 : decode cX2_readPair 83 = .ok (.lcmp, 1) := by decide +kernel
theorem dX2_readPair_84 : decode cX2_readPair 84 = .ok (.ifCond .eq 9, 3) := by decide +kernel
theorem dX2_readPair_87 : decode cX2_readPair 87 = .ok (.aload_n 0, 1) := by decide +kernel
theorem dX2_readPair_88 : decode cX2_readPair 88 = .ok (.iconst 4, 1) := by decide +kernel
theorem dX2_readPair_89 : decode cX2_readPair 89 = .ok (.invokevirtual 55, 3) := by decide +kernel
theorem dX2_readPair_92 : decode cX2_readPair 92 = .ok (.ireturn, 1) := by decide +kernel
theorem dX2_readPair_93 : decode cX2_readPair 93 = .ok (.aload_n 0, 1) := by decide +kernel
theorem dX2_readPair_94 : decode cX2_readPair 94 = .ok (.dup, 1) := by decide +kernel
theorem dX2_readPair_95 : decode cX2_readPair 95 = .ok (.getfield 29, 3) := by decide +kernel
theorem dX2_readPair_98 : decode cX2_readPair 98 = .ok (.lload 4, 2) := by decide +kernel
theorem dX2_readPair_100 : decode cX2_readPair 100 = .ok (.lor, 1) := by decide +kernel
theorem dX2_readPair_101 : decode cX2_readPair 101 = .ok (.putfield 29, 3) := by decide +kernel
theorem dX2_readPair_104 : decode cX2_readPair 104 = .ok (.aload_n 0, 1) := by decide +kernel
theorem dX2_readPair_105 : decode cX2_readPair 105 = .ok (.invokevirtual 40, 3) := by decide +kernel
theorem dX2_readPair_108 : decode cX2_readPair 108 = .ok (.aload_n 0, 1) := by decide +kernel
theorem dX2_readPair_109 : decode cX2_readPair 109 = .ok (.getfield 43, 3) := by decide +kernel
theorem dX2_readPair_112 : decode cX2_readPair 112 = .ok (.iconst 3, 1) := by decide +kernel
theorem dX2_readPair_113 : decode cX2_readPair 113 = .ok (.if_icmp .eq 11, 3) := by decide +kernel
theorem dX2_readPair_116 : decode cX2_readPair 116 = .ok (.aload_n 0, 1) := by decide +kernel
theorem dX2_readPair_117 : decode cX2_readPair 117 = .ok (.iconst 1, 1) := by decide +kernel
theorem dX2_readPair_118 : decode cX2_readPair 118 = .ok (.invokevirtual 55, 3) := by decide +kernel
theorem dX2_readPair_121 : decode cX2_readPair 121 = .ok (.ifCond .eq 7, 3) := by decide +kernel
theorem dX2_readPair_124 : decode cX2_readPair 124 = .ok (.iconst 1, 1) := by decide +kernel
theorem dX2_readPair_125 : decode cX2_readPair 125 = .ok (.goto 4, 3) := by decide +kernel
theorem dX2_readPair_128 : decode cX2_readPair 128 = .ok (.iconst 0, 1) := by decide +kernel
theorem dX2_readPair_129 : decode cX2_readPair 129 = .ok (.ireturn, 1) := by decide +kernel
theorem dX2_blame_0 : decode cX2_blame 0 = .ok (.aload_n 0, 1) := by decide +kernel
theorem dX2_blame_1 : decode cX2_blame 1 = .ok (.iload_n 1, 1) := by decide +kernel
theorem dX2_blame_2 : decode cX2_blame 2 = .ok (.putfield 23, 3) := by decide +kernel
theorem dX2_blame_5 : decode cX2_blame 5 = .ok (.aload_n 0, 1) := by decide +kernel
theorem dX2_blame_6 : decode cX2_blame 6 = .ok (.aload_n 0, 1) := by decide +kernel
theorem dX2_blame_7 : decode cX2_blame 7 = .ok (.getfield 85, 3) := by decide +kernel
theorem dX2_blame_10 : decode cX2_blame 10 = .ok (.putfield 88, 3) := by decide +kernel
theorem dX2_blame_13 : decode cX2_blame 13 = .ok (.iconst 0, 1) := by decide +kernel
theorem dX2_blame_14 : decode cX2_blame 14 = .ok (.ireturn, 1) := by decide +kernel
set_option maxRecDepth 20000 in
theorem ggX2_nextToken_X2_readRun : GoodIn wsX2_nextToken wsX2_readRun := goodIn_r _ [14, 7, 6, 1, 8, 9, 15, 16, 13, 17, 18, 19, 20, 21, 22, 23, 24, 25, 26, 27, 28, 29, 30] (by decide +kernel) (by decide +kernel)
set_option maxRecDepth 20000 in
theorem gX2_nextToken_X2_readRun : GoodIn wsX2_nextToken (wsV RX2 97 RX2 yX2_readRun wsX2_readRun) := goodIn_app (goodIn_of _ (by decide +kernel)) ggX2_nextToken_X2_readRun
theorem dX2_nextToken_0 : decode cX2_nextToken 0 = .ok (.aload_n 0, 1) := by decide +kernel
theorem dX2_nextToken_1 : decode cX2_nextToken 1 = .ok (.getfield 19, 3) := by decide +kernel
theorem dX2_nextToken_4 : decode cX2_nextToken 4 = .ok (.sipush 500, 3) := by decide +kernel
theorem dX2_nextToken_7 : decode cX2_nextToken 7 = .ok (.invokestatic 91, 3) := by decide +kernel
theorem dX2_nextToken_10 : decode cX2_nextToken 10 = .ok (.istore_n 1, 1) := by decide +kernel
theorem dX2_nextToken_11 : decode cX2_nextToken 11 = .ok (.aload_n 0, 1) := by decide +kernel
theorem dX2_nextToken_12 : decode cX2_nextToken 12 = .ok (.aload_n 0, 1) := by decide +kernel
theorem dX2_nextToken_13 : decode cX2_nextToken 13 = .ok (.getfield 33, 3) := by decide +kernel
theorem dX2_nextToken_16 : decode cX2_nextToken 16 = .ok (.putfield 85, 3) := by decide +kernel
theorem dX2_nextToken_19 : decode cX2_nextToken 19 = .ok (.aload_n 0, 1) := by decide +kernel
theorem dX2_nextToken_20 : decode cX2_nextToken 20 = .ok (.getfield 85, 3) := by decide +kernel
theorem dX2_nextToken_23 : decode cX2_nextToken 23 = .ok (.iload_n 1, 1) := by decide +kernel
theorem dX2_nextToken_24 : decode cX2_nextToken 24 = .ok (.if_icmp .ge 44, 3) := by decide +kernel
theorem dX2_nextToken_27 : decode cX2_nextToken 27 = .ok (.aload_n 0, 1) := by decide +kernel
theorem dX2_nextToken_28 : decode cX2_nextToken 28 = .ok (.getfield 11, 3) := by decide +kernel
theorem dX2_nextToken_31 : decode cX2_nextToken 31 = .ok (.aload_n 0, 1) := by decide +kernel
theorem dX2_nextToken_32 : decode cX2_nextToken 32 = .ok (.getfield 85, 3) := by decide +kernel
theorem dX2_nextToken_35 : decode cX2_nextToken 35 = .ok (.baload, 1) := by decide +kernel
theorem dX2_nextToken_36 : decode cX2_nextToken 36 = .ok (.bipush 32, 2) := by decide +kernel
theorem dX2_nextToken_38 : decode cX2_nextToken 38 = .ok (.if_icmp .eq 17, 3) := by decide +kernel
theorem dX2_nextToken_41 : decode cX2_nextToken 41 = .ok (.aload_n 0, 1) := by decide +kernel
theorem dX2_nextToken_42 : decode cX2_nextToken 42 = .ok (.getfield 11, 3) := by decide +kernel
theorem dX2_nextToken_45 : decode cX2_nextToken 45 = .ok (.aload_n 0, 1) := by decide +kernel
theorem dX2_nextToken_46 : decode cX2_nextToken 46 = .ok (.getfield 85, 3) := by decide +kernel
theorem dX2_nextToken_49 : decode cX2_nextToken 49 = .ok (.baload, 1) := by decide +kernel
theorem dX2_nextToken_50 : decode cX2_nextToken 50 = .ok (.bipush 10, 2) := by decide +kernel
theorem dX2_nextToken_52 : decode cX2_nextToken 52 = .ok (.if_icmp .ne 16, 3) := by decide +kernel
theorem dX2_nextToken_55 : decode cX2_nextToken 55 = .ok (.aload_n 0, 1) := by decide +kernel
theorem dX2_nextToken_56 : decode cX2_nextToken 56 = .ok (.dup, 1) := by decide +kernel
theorem dX2_nextToken_57 : decode cX2_nextToken 57 = .ok (.getfield 85, 3) := by decide +kernel
theorem dX2_nextToken_60 : decode cX2_nextToken 60 = .ok (.iconst 1, 1) := by decide +kernel
theorem dX2_nextToken_61 : decode cX2_nextToken 61 = .ok (.iadd, 1) := by decide +kernel
theorem dX2_nextToken_62 : decode cX2_nextToken 62 = .ok (.putfield 85, 3) := by decide +kernel
theorem dX2_nextToken_65 : decode cX2_nextToken 65 = .ok (.goto (-46), 3) := by decide +kernel
theorem dX2_nextToken_68 : decode cX2_nextToken 68 = .ok (.aload_n 0, 1) := by decide +kernel
theorem dX2_nextToken_69 : decode cX2_nextToken 69 = .ok (.getfield 85, 3) := by decide +kernel
theorem dX2_nextToken_72 : decode cX2_nextToken 72 = .ok (.iload_n 1, 1) := by decide +kernel
theorem dX2_nextToken_73 : decode cX2_nextToken 73 = .ok (.if_icmp .lt 19, 3) := by decide +kernel
theorem dX2_nextToken_76 : decode cX2_nextToken 76 = .ok (.aload_n 0, 1) := by decide +kernel
theorem dX2_nextToken_77 : decode cX2_nextToken 77 = .ok (.iload_n 1, 1) := by decide +kernel
theorem dX2_nextToken_78 : decode cX2_nextToken 78 = .ok (.putfield 85, 3) := by decide +kernel
theorem dX2_nextToken_81 : decode cX2_nextToken 81 = .ok (.aload_n 0, 1) := by decide +kernel
theorem dX2_nextToken_82 : decode cX2_nextToken 82 = .ok (.iload_n 1, 1) := by decide +kernel
theorem dX2_nextToken_83 : decode cX2_nextToken 83 = .ok (.putfield 33, 3) := by decide +kernel
theorem dX2_nextToken_86 : decode cX2_nextToken 86 = .ok (.aload_n 0, 1) := by decide +kernel
theorem dX2_nextToken_87 : decode cX2_nextToken 87 = .ok (.iconst 0, 1) := by decide +kernel
theorem dX2_nextToken_88 : decode cX2_nextToken 88 = .ok (.putfield 43, 3) := by decide +kernel
theorem dX2_nextToken_91 : decode cX2_nextToken 91 = .ok (.return_, 1) := by decide +kernel
theorem dX2_nextToken_92 : decode cX2_nextToken 92 = .ok (.aload_n 0, 1) := by decide +kernel
theorem dX2_nextToken_93 : decode cX2_nextToken 93 = .ok (.invokevirtual 97, 3) := by decide +kernel
theorem dX2_nextToken_96 : decode cX2_nextToken 96 = .ok (.aload_n 0, 1) := by decide +kernel
theorem dX2_nextToken_97 : decode cX2_nextToken 97 = .ok (.getfield 33, 3) := by decide +kernel
theorem dX2_nextToken_100 : decode cX2_nextToken 100 = .ok (.aload_n 0, 1) := by decide +kernel
theorem dX2_nextToken_101 : decode cX2_nextToken 101 = .ok (.getfield 85, 3) := by decide +kernel
theorem dX2_nextToken_104 : decode cX2_nextToken 104 = .ok (.if_icmp .ne 36, 3) := by decide +kernel
theorem dX2_nextToken_107 : decode cX2_nextToken 107 = .ok (.aload_n 0, 1) := by decide +kernel
theorem dX2_nextToken_108 : decode cX2_nextToken 108 = .ok (.aload_n 0, 1) := by decide +kernel
theorem dX2_nextToken_109 : decode cX2_nextToken 109 = .ok (.getfield 11, 3) := by decide +kernel
theorem dX2_nextToken_112 : decode cX2_nextToken 112 = .ok (.aload_n 0, 1) := by decide +kernel
theorem dX2_nextToken_113 : decode cX2_nextToken 113 = .ok (.getfield 85, 3) := by decide +kernel
theorem dX2_nextToken_116 : decode cX2_nextToken 116 = .ok (.baload, 1) := by decide +kernel
theorem dX2_nextToken_117 : decode cX2_nextToken 117 = .ok (.bipush 59, 2) := by decide +kernel
theorem dX2_nextToken_119 : decode cX2_nextToken 119 = .ok (.if_icmp .ne 7, 3) := by decide +kernel
theorem dX2_nextToken_122 : decode cX2_nextToken 122 = .ok (.iconst 3, 1) := by decide +kernel
theorem dX2_nextToken_123 : decode cX2_nextToken 123 = .ok (.goto 4, 3) := by decide +kernel
theorem dX2_nextToken_126 : decode cX2_nextToken 126 = .ok (.iconst 4, 1) := by decide +kernel
theorem dX2_nextToken_127 : decode cX2_nextToken 127 = .ok (.putfield 43, 3) := by decide +kernel
theorem dX2_nextToken_130 : decode cX2_nextToken 130 = .ok (.aload_n 0, 1) := by decide +kernel
theorem dX2_nextToken_131 : decode cX2_nextToken 131 = .ok (.dup, 1) := by decide +kernel
theorem dX2_nextToken_132 : decode cX2_nextToken 132 = .ok (.getfield 33, 3) := by decide +kernel
theorem dX2_nextToken_135 : decode cX2_nextToken 135 = .ok (.iconst 1, 1) := by decide +kernel
theorem dX2_nextToken_136 : decode cX2_nextToken 136 = .ok (.iadd, 1) := by decide +kernel
theorem dX2_nextToken_137 : decode cX2_nextToken 137 = .ok (.putfield 33, 3) := by decide +kernel
theorem dX2_nextToken_140 : decode cX2_nextToken 140 = .ok (.return_, 1) := by decide +kernel
set_option maxRecDepth 20000 in
theorem ggX2_readRun_X2_isLetter : GoodIn wsX2_readRun wsX2_isLetter := goodIn_r _ [9] (by decide +kernel) (by decide +kernel)
set_option maxRecDepth 20000 in
theorem gX2_readRun_X2_isLetter : GoodIn wsX2_readRun (va_wsS RX2 100 yX2_isLetter wsX2_isLetter) := goodIn_app (goodIn_of _ (by decide +kernel)) ggX2_readRun_X2_isLetter
set_option maxRecDepth 20000 in
theorem ggX2_readRun_X2_isDigit : GoodIn wsX2_readRun wsX2_isDigit := goodIn_r _ [12] (by decide +kernel) (by decide +kernel)
set_option maxRecDepth 20000 in
theorem gX2_readRun_X2_isDigit : GoodIn wsX2_readRun (va_wsS RX2 104 yX2_isDigit wsX2_isDigit) := goodIn_app (goodIn_of _ (by decide +kernel)) ggX2_readRun_X2_isDigit
theorem dX2_readRun_0 : decode cX2_readRun 0 = .ok (.iconst 0, 1) := by decide +kernel
theorem dX2_readRun_1 : decode cX2_readRun 1 = .ok (.istore_n 1, 1) := by decide +kernel
theorem dX2_readRun_2 : decode cX2_readRun 2 = .ok (.aload_n 0, 1) := by decide +kernel
theorem dX2_readRun_3 : decode cX2_readRun 3 = .ok (.aload_n 0, 1) := by decide +kernel
theorem dX2_readRun_4 : decode cX2_readRun 4 = .ok (.getfield 85, 3) := by decide +kernel
theorem dX2_readRun_7 : decode cX2_readRun 7 = .ok (.putfield 33, 3) := by decide +kernel
theorem dX2_readRun_10 : decode cX2_readRun 10 = .ok (.aload_n 0, 1) := by decide +kernel
theorem dX2_readRun_11 : decode cX2_readRun 11 = .ok (.getfield 33, 3) := by decide +kernel
theorem dX2_readRun_14 : decode cX2_readRun 14 = .ok (.aload_n 0, 1) := by decide +kernel
theorem dX2_readRun_15 : decode cX2_readRun 15 = .ok (.getfield 19, 3) := by decide +kernel
theorem dX2_readRun_18 : decode cX2_readRun 18 = .ok (.if_icmp .ge 69, 3) := by decide +kernel
theorem dX2_readRun_21 : decode cX2_readRun 21 = .ok (.aload_n 0, 1) := by decide +kernel
theorem dX2_readRun_22 : decode cX2_readRun 22 = .ok (.getfield 11, 3) := by decide +kernel
theorem dX2_readRun_25 : decode cX2_readRun 25 = .ok (.aload_n 0, 1) := by decide +kernel
theorem dX2_readRun_26 : decode cX2_readRun 26 = .ok (.getfield 33, 3) := by decide +kernel
theorem dX2_readRun_29 : decode cX2_readRun 29 = .ok (.baload, 1) := by decide +kernel
theorem dX2_readRun_30 : decode cX2_readRun 30 = .ok (.invokestatic 100, 3) := by decide +kernel
theorem dX2_readRun_33 : decode cX2_readRun 33 = .ok (.ifCond .ne 18, 3) := by decide +kernel
theorem dX2_readRun_36 : decode cX2_readRun 36 = .ok (.aload_n 0, 1) := by decide +kernel
theorem dX2_readRun_37 : decode cX2_readRun 37 = .ok (.getfield 11, 3) := by decide +kernel
theorem dX2_readRun_40 : decode cX2_readRun 40 = .ok (.aload_n 0, 1) := by decide +kernel
theorem dX2_readRun_41 : decode cX2_readRun 41 = .ok (.getfield 33, 3) := by decide +kernel
theorem dX2_readRun_44 : decode cX2_readRun 44 = .ok (.baload, 1) := by decide +kernel
theorem dX2_readRun_45 : decode cX2_readRun 45 = .ok (.invokestatic 104, 3) := by decide +kernel
theorem dX2_readRun_48 : decode cX2_readRun 48 = .ok (.ifCond .eq 39, 3) := by decide +kernel
theorem dX2_readRun_51 : decode cX2_readRun 51 = .ok (.iload_n 1, 1) := by decide +kernel
theorem dX2_readRun_52 : decode cX2_readRun 52 = .ok (.aload_n 0, 1) := by decide +kernel
theorem dX2_readRun_53 : decode cX2_readRun 53 = .ok (.getfield 11, 3) := by decide +kernel
theorem dX2_readRun_56 : decode cX2_readRun 56 = .ok (.aload_n 0, 1) := by decide +kernel
theorem dX2_readRun_57 : decode cX2_readRun 57 = .ok (.getfield 33, 3) := by decide +kernel
theorem dX2_readRun_60 : decode cX2_readRun 60 = .ok (.baload, 1) := by decide +kernel
theorem dX2_readRun_61 : decode cX2_readRun 61 = .ok (.invokestatic 104, 3) := by decide +kernel
theorem dX2_readRun_64 : decode cX2_readRun 64 = .ok (.ifCond .eq 7, 3) := by decide +kernel
theorem dX2_readRun_67 : decode cX2_readRun 67 = .ok (.iconst 1, 1) := by decide +kernel
theorem dX2_readRun_68 : decode cX2_readRun 68 = .ok (.goto 4, 3) := by decide +kernel
theorem dX2_readRun_71 : decode cX2_readRun 71 = .ok (.iconst 0, 1) := by decide +kernel
theorem dX2_readRun_72 : decode cX2_readRun 72 = .ok (.iadd, 1) := by decide +kernel
theorem dX2_readRun_73 : decode cX2_readRun 73 = .ok (.istore_n 1, 1) := by decide +kernel
theorem dX2_readRun_74 : decode cX2_readRun 74 = .ok (.aload_n 0, 1) := by decide +kernel
theorem dX2_readRun_75 : decode cX2_readRun 75 = .ok (.dup, 1) := by decide +kernel
theorem dX2_readRun_76 : decode cX2_readRun 76 = .ok (.getfield 33, 3) := by decide +kernel
theorem dX2_readRun_79 : decode cX2_readRun 79 = .ok (.iconst 1, 1) := by decide +kernel
theorem dX2_readRun_80 : decode cX2_readRun 80 = .ok (.iadd, 1) := by decide +kernel
theorem dX2_readRun_81 : decode cX2_readRun 81 = .ok (.putfield 33, 3) := by decide +kernel
theorem dX2_readRun_84 : decode cX2_readRun 84 = .ok (.goto (-74), 3) := by decide +kernel
theorem dX2_readRun_87 : decode cX2_readRun 87 = .ok (.iload_n 1, 1) := by decide +kernel
theorem dX2_readRun_88 : decode cX2_readRun 88 = .ok (.ifCond .ne 11, 3) := by decide +kernel
theorem dX2_readRun_91 : decode cX2_readRun 91 = .ok (.aload_n 0, 1) := by decide +kernel
theorem dX2_readRun_92 : decode cX2_readRun 92 = .ok (.iconst 1, 1) := by decide +kernel
theorem dX2_readRun_93 : decode cX2_readRun 93 = .ok (.putfield 43, 3) := by decide +kernel
theorem dX2_readRun_96 : decode cX2_readRun 96 = .ok (.goto 30, 3) := by decide +kernel
theorem dX2_readRun_99 : decode cX2_readRun 99 = .ok (.aload_n 0, 1) := by decide +kernel
theorem dX2_readRun_100 : decode cX2_readRun 100 = .ok (.iload_n 1, 1) := by decide +kernel
theorem dX2_readRun_101 : decode cX2_readRun 101 = .ok (.aload_n 0, 1) := by decide +kernel
theorem dX2_readRun_102 : decode cX2_readRun 102 = .ok (.getfield 33, 3) := by decide +kernel
theorem dX2_readRun_105 : decode cX2_readRun 105 = .ok (.aload_n 0, 1) := by decide +kernel
theorem dX2_readRun_106 : decode cX2_readRun 106 = .ok (.getfield 85, 3) := by decide +kernel
theorem dX2_readRun_109 : decode cX2_readRun 109 = .ok (.isub, 1) := by decide +kernel
theorem dX2_readRun_110 : decode cX2_readRun 110 = .ok (.if_icmp .ne 12, 3) := by decide +kernel
theorem dX2_readRun_113 : decode cX2_readRun 113 = .ok (.iload_n 1, 1) := by decide +kernel
theorem dX2_readRun_114 : decode cX2_readRun 114 = .ok (.iconst 3, 1) := by decide +kernel
theorem dX2_readRun_115 : decode cX2_readRun 115 = .ok (.if_icmp .gt 7, 3) := by decide +kernel
theorem dX2_readRun_118 : decode cX2_readRun 118 = .ok (.iconst 2, 1) := by decide +kernel
theorem dX2_readRun_119 : decode cX2_readRun 119 = .ok (.goto 4, 3) := by decide +kernel
theorem dX2_readRun_122 : decode cX2_readRun 122 = .ok (.iconst 4, 1) := by decide +kernel
theorem dX2_readRun_123 : decode cX2_readRun 123 = .ok (.putfield 43, 3) := by decide +kernel
theorem dX2_readRun_126 : decode cX2_readRun 126 = .ok (.return_, 1) := by decide +kernel
theorem dX2_isLetter_0 : decode cX2_isLetter 0 = .ok (.iload_n 0, 1) := by decide +kernel
theorem dX2_isLetter_1 : decode cX2_isLetter 1 = .ok (.bipush 97, 2) := by decide +kernel
theorem dX2_isLetter_3 : decode cX2_isLetter 3 = .ok (.if_icmp .lt 13, 3) := by decide +kernel
theorem dX2_isLetter_6 : decode cX2_isLetter 6 = .ok (.iload_n 0, 1) := by decide +kernel
theorem dX2_isLetter_7 : decode cX2_isLetter 7 = .ok (.bipush 122, 2) := by decide +kernel
theorem dX2_isLetter_9 : decode cX2_isLetter 9 = .ok (.if_icmp .gt 7, 3) := by decide +kernel
theorem dX2_isLetter_12 : decode cX2_isLetter 12 = .ok (.iconst 1, 1) := by decide +kernel
theorem dX2_isLetter_13 : decode cX2_isLetter 13 = .ok (.goto 4, 3) := by decide +kernel
theorem dX2_isLetter_16 : decode cX2_isLetter 16 = .ok (.iconst 0, 1) := by decide +kernel
theorem dX2_isLetter_17 : decode cX2_isLetter 17 = .ok (.ireturn, 1) := by decide +kernel
theorem dX2_isDigit_0 : decode cX2_isDigit 0 = .ok (.iload_n 0, 1) := by decide +kernel
theorem dX2_isDigit_1 : decode cX2_isDigit 1 = .ok (.bipush 48, 2) := by decide +kernel
theorem dX2_isDigit_3 : decode cX2_isDigit 3 = .ok (.if_icmp .lt 13, 3) := by decide +kernel
theorem dX2_isDigit_6 : decode cX2_isDigit 6 = .ok (.iload_n 0, 1) := by decide +kernel
theorem dX2_isDigit_7 : decode cX2_isDigit 7 = .ok (.bipush 57, 2) := by decide +kernel
theorem dX2_isDigit_9 : decode cX2_isDigit 9 = .ok (.if_icmp .gt 7, 3) := by decide +kernel
theorem dX2_isDigit_12 : decode cX2_isDigit 12 = .ok (.iconst 1, 1) := by decide +kernel
theorem dX2_isDigit_13 : decode cX2_isDigit 13 = .ok (.goto 4, 3) := by decide +kernel
theorem dX2_isDigit_16 : decode cX2_isDigit 16 = .ok (.iconst 0, 1) := by decide +kernel
theorem dX2_isDigit_17 : decode cX2_isDigit 17 = .ok (.ireturn, 1) := by decide +kernel
set_option maxRecDepth 20000 in
theorem ggX2_isWord_J0_length_8abf5 : GoodIn wsX2_isWord wsJ0_length_8abf5 := goodIn_r _ [9, 10, 11, 12, 13, 8, 14, 15, 16] (by decide +kernel) (by decide +kernel)
set_option maxRecDepth 20000 in
theorem gX2_isWord_J0_length_8abf5 : GoodIn wsX2_isWord (wsV RX2 107 RJ0 yJ0_length_8abf5 wsJ0_length_8abf5) := goodIn_app (goodIn_of _ (by decide +kernel)) ggX2_isWord_J0_length_8abf5
set_option maxRecDepth 20000 in
theorem ggX2_isWord_J0_charAt_5068e : GoodIn wsX2_isWord wsJ0_charAt_5068e := goodIn_r _ [20, 10, 21, 22, 23, 8, 24, 15, 16, 25, 26, 27, 28, 29, 30, 31, 32, 33, 34, 35, 36, 37, 38, 39, 40, 41, 42, 43, 44, 45, 46, 47, 48, 49, 50, 51, 52, 53] (by decide +kernel) (by decide +kernel)
set_option maxRecDepth 20000 in
theorem gX2_isWord_J0_charAt_5068e : GoodIn wsX2_isWord (wsV RX2 111 RJ0 yJ0_charAt_5068e wsJ0_charAt_5068e) := goodIn_app (goodIn_of _ (by decide +kernel)) ggX2_isWord_J0_charAt_5068e
theorem dX2_isWord_0 : decode cX2_isWord 0 = .ok (.aload_n 0, 1) := by decide +kernel
theorem dX2_isWord_1 : decode cX2_isWord 1 = .ok (.getfield 43, 3) := by decide +kernel
theorem dX2_isWord_4 : decode cX2_isWord 4 = .ok (.iconst 1, 1) := by decide +kernel
theorem dX2_isWord_5 : decode cX2_isWord 5 = .ok (.if_icmp .ne 19, 3) := by decide +kernel
theorem dX2_isWord_8 : decode cX2_isWord 8 = .ok (.aload_n 0, 1) := by decide +kernel
theorem dX2_isWord_9 : decode cX2_isWord 9 = .ok (.getfield 33, 3) := by decide +kernel
theorem dX2_isWord_12 : decode cX2_isWord 12 = .ok (.aload_n 0, 1) := by decide +kernel
theorem dX2_isWord_13 : decode cX2_isWord 13 = .ok (.getfield 85, 3) := by decide +kernel
theorem dX2_isWord_16 : decode cX2_isWord 16 = .ok (.isub, 1) := by decide +kernel
theorem dX2_isWord_17 : decode cX2_isWord 17 = .ok (.aload_n 1, 1) := by decide +kernel
theorem dX2_isWord_18 : decode cX2_isWord 18 = .ok (.invokevirtual 107, 3) := by decide +kernel
theorem dX2_isWord_21 : decode cX2_isWord 21 = .ok (.if_icmp .eq 5, 3) := by decide +kernel
theorem dX2_isWord_24 : decode cX2_isWord 24 = .ok (.iconst 0, 1) := by decide +kernel
theorem dX2_isWord_25 : decode cX2_isWord 25 = .ok (.ireturn, 1) := by decide +kernel
theorem dX2_isWord_26 : decode cX2_isWord 26 = .ok (.iconst 0, 1) := by decide +kernel
theorem dX2_isWord_27 : decode cX2_isWord 27 = .ok (.istore_n 2, 1) := by decide +kernel
theorem dX2_isWord_28 : decode cX2_isWord 28 = .ok (.iload_n 2, 1) := by decide +kernel
theorem dX2_isWord_29 : decode cX2_isWord 29 = .ok (.aload_n 1, 1) := by decide +kernel
theorem dX2_isWord_30 : decode cX2_isWord 30 = .ok (.invokevirtual 107, 3) := by decide +kernel
theorem dX2_isWord_33 : decode cX2_isWord 33 = .ok (.if_icmp .ge 30, 3) := by decide +kernel
theorem dX2_isWord_36 : decode cX2_isWord 36 = .ok (.aload_n 0, 1) := by decide +kernel
theorem dX2_isWord_37 : decode cX2_isWord 37 = .ok (.getfield 11, 3) := by decide +kernel
theorem dX2_isWord_40 : decode cX2_isWord 40 = .ok (.aload_n 0, 1) := by decide +kernel
theorem dX2_isWord_41 : decode cX2_isWord 41 = .ok (.getfield 85, 3) := by decide +kernel
theorem dX2_isWord_44 : decode cX2_isWord 44 = .ok (.iload_n 2, 1) := by decide +kernel
theorem dX2_isWord_45 : decode cX2_isWord 45 = .ok (.iadd, 1) := by decide +kernel
theorem dX2_isWord_46 : decode cX2_isWord 46 = .ok (.baload, 1) := by decide +kernel
theorem dX2_isWord_47 : decode cX2_isWord 47 = .ok (.aload_n 1, 1) := by decide +kernel
theorem dX2_isWord_48 : decode cX2_isWord 48 = .ok (.iload_n 2, 1) := by decide +kernel
theorem dX2_isWord_49 : decode cX2_isWord 49 = .ok (.invokevirtual 111, 3) := by decide +kernel
theorem dX2_isWord_52 : decode cX2_isWord 52 = .ok (.if_icmp .eq 5, 3) := by decide +kernel
theorem dX2_isWord_55 : decode cX2_isWord 55 = .ok (.iconst 0, 1) := by decide +kernel
theorem dX2_isWord_56 : decode cX2_isWord 56 = .ok (.ireturn, 1) := by decide +kernel
theorem dX2_isWord_57 : decode cX2_isWord 57 = .ok (.iinc 2 1, 3) := by decide +kernel
theorem dX2_isWord_60 : decode cX2_isWord 60 = .ok (.goto (-32), 3) := by decide +kernel
theorem dX2_isWord_63 : decode cX2_isWord 63 = .ok (.iconst 1, 1) := by decide +kernel
theorem dX2_isWord_64 : decode cX2_isWord 64 = .ok (.ireturn, 1) := by decide +kernel
theorem dX2_numberRead_0 : decode cX2_numberRead 0 = .ok (.iconst 0, 1) := by decide +kernel
theorem dX2_numberRead_1 : decode cX2_numberRead 1 = .ok (.istore_n 1, 1) := by decide +kernel
theorem dX2_numberRead_2 : decode cX2_numberRead 2 = .ok (.aload_n 0, 1) := by decide +kernel
theorem dX2_numberRead_3 : decode cX2_numberRead 3 = .ok (.getfield 85, 3) := by decide +kernel
theorem dX2_numberRead_6 : decode cX2_numberRead 6 = .ok (.istore_n 2, 1) := by decide +kernel
theorem dX2_numberRead_7 : decode cX2_numberRead 7 = .ok (.iload_n 2, 1) := by decide +kernel
theorem dX2_numberRead_8 : decode cX2_numberRead 8 = .ok (.aload_n 0, 1) := by decide +kernel
theorem dX2_numberRead_9 : decode cX2_numberRead 9 = .ok (.getfield 33, 3) := by decide +kernel
theorem dX2_numberRead_12 : decode cX2_numberRead 12 = .ok (.if_icmp .ge 24, 3) := by decide +kernel
theorem dX2_numberRead_15 : decode cX2_numberRead 15 = .ok (.iload_n 1, 1) := by decide +kernel
theorem dX2_numberRead_16 : decode cX2_numberRead 16 = .ok (.bipush 10, 2) := by decide +kernel
theorem dX2_numberRead_18 : decode cX2_numberRead 18 = .ok (.imul, 1) := by decide +kernel
theorem dX2_numberRead_19 : decode cX2_numberRead 19 = .ok (.aload_n 0, 1) := by decide +kernel
theorem dX2_numberRead_20 : decode cX2_numberRead 20 = .ok (.getfield 11, 3) := by decide +kernel
theorem dX2_numberRead_23 : decode cX2_numberRead 23 = .ok (.iload_n 2, 1) := by decide +kernel
theorem dX2_numberRead_24 : decode cX2_numberRead 24 = .ok (.baload, 1) := by decide +kernel
theorem dX2_numberRead_25 : decode cX2_numberRead 25 = .ok (.bipush 48, 2) := by decide +kernel
theorem dX2_numberRead_27 : decode cX2_numberRead 27 = .ok (.isub, 1) := by decide +kernel
theorem dX2_numberRead_28 : decode cX2_numberRead 28 = .ok (.iadd, 1) := by decide +kernel
theorem dX2_numberRead_29 : decode cX2_numberRead 29 = .ok (.istore_n 1, 1) := by decide +kernel
theorem dX2_numberRead_30 : decode cX2_numberRead 30 = .ok (.iinc 2 1, 3) := by decide +kernel
theorem dX2_numberRead_33 : decode cX2_numberRead 33 = .ok (.goto (-26), 3) := by decide +kernel
theorem dX2_numberRead_36 : decode cX2_numberRead 36 = .ok (.iload_n 1, 1) := by decide +kernel
theorem dX2_numberRead_37 : decode cX2_numberRead 37 = .ok (.ireturn, 1) := by decide +kernel
theorem dX2_lettersRead_0 : decode cX2_lettersRead 0 = .ok (.iconst 0, 1) := by decide +kernel
theorem dX2_lettersRead_1 : decode cX2_lettersRead 1 = .ok (.istore_n 1, 1) := by decide +kernel
theorem dX2_lettersRead_2 : decode cX2_lettersRead 2 = .ok (.aload_n 0, 1) := by decide +kernel
theorem dX2_lettersRead_3 : decode cX2_lettersRead 3 = .ok (.getfield 85, 3) := by decide +kernel
theorem dX2_lettersRead_6 : decode cX2_lettersRead 6 = .ok (.istore_n 2, 1) := by decide +kernel
theorem dX2_lettersRead_7 : decode cX2_lettersRead 7 = .ok (.iload_n 2, 1) := by decide +kernel
theorem dX2_lettersRead_8 : decode cX2_lettersRead 8 = .ok (.aload_n 0, 1) := by decide +kernel
theorem dX2_lettersRead_9 : decode cX2_lettersRead 9 = .ok (.getfield 33, 3) := by decide +kernel
theorem dX2_lettersRead_12 : decode cX2_lettersRead 12 = .ok (.if_icmp .ge 48, 3) := by decide +kernel
theorem dX2_lettersRead_15 : decode cX2_lettersRead 15 = .ok (.aload_n 0, 1) := by decide +kernel
theorem dX2_lettersRead_16 : decode cX2_lettersRead 16 = .ok (.getfield 11, 3) := by decide +kernel
theorem dX2_lettersRead_19 : decode cX2_lettersRead 19 = .ok (.iload_n 2, 1) := by decide +kernel
theorem dX2_lettersRead_20 : decode cX2_lettersRead 20 = .ok (.baload, 1) := by decide +kernel
theorem dX2_lettersRead_21 : decode cX2_lettersRead 21 = .ok (.bipush 97, 2) := by decide +kernel
theorem dX2_lettersRead_23 : decode cX2_lettersRead 23 = .ok (.isub, 1) := by decide +kernel
theorem dX2_lettersRead_24 : decode cX2_lettersRead 24 = .ok (.istore_n 3, 1) := by decide +kernel
theorem dX2_lettersRead_25 : decode cX2_lettersRead 25 = .ok (.iload_n 3, 1) := by decide +kernel
theorem dX2_lettersRead_26 : decode cX2_lettersRead 26 = .ok (.ifCond .lt 20, 3) := by decide +kernel
theorem dX2_lettersRead_29 : decode cX2_lettersRead 29 = .ok (.iload_n 3, 1) := by decide +kernel
theorem dX2_lettersRead_30 : decode cX2_lettersRead 30 = .ok (.aload_n 0, 1) := by decide +kernel
theorem dX2_lettersRead_31 : decode cX2_lettersRead 31 = .ok (.getfield 26, 3) := by decide +kernel
theorem dX2_lettersRead_34 : decode cX2_lettersRead 34 = .ok (.if_icmp .ge 12, 3) := by decide +kernel
theorem dX2_lettersRead_37 : decode cX2_lettersRead 37 = .ok (.iload_n 1, 1) := by decide +kernel
theorem dX2_lettersRead_38 : decode cX2_lettersRead 38 = .ok (.iload_n 3, 1) := by decide +kernel
theorem dX2_lettersRead_39 : decode cX2_lettersRead 39 = .ok (.ishr, 1) := by decide +kernel
theorem dX2_lettersRead_40 : decode cX2_lettersRead 40 = .ok (.iconst 1, 1) := by decide +kernel
theorem dX2_lettersRead_41 : decode cX2_lettersRead 41 = .ok (.iand, 1) := by decide +kernel
theorem dX2_lettersRead_42 : decode cX2_lettersRead 42 = .ok (.iconst 1, 1) := by decide +kernel
theorem dX2_lettersRead_43 : decode cX2_lettersRead 43 = .ok (.if_icmp .ne 5, 3) := by decide +kernel
theorem dX2_lettersRead_46 : decode cX2_lettersRead 46 = .ok (.iconst (-1), 1) := by decide +kernel
theorem dX2_lettersRead_47 : decode cX2_lettersRead 47 = .ok (.ireturn, 1) := by decide +kernel
theorem dX2_lettersRead_48 : decode cX2_lettersRead 48 = .ok (.iload_n 1, 1) := by decide +kernel
theorem dX2_lettersRead_49 : decode cX2_lettersRead 49 = .ok (.iconst 1, 1) := by decide +kernel
theorem dX2_lettersRead_50 : decode cX2_lettersRead 50 = .ok (.iload_n 3, 1) := by decide +kernel
theorem dX2_lettersRead_51 : decode cX2_lettersRead 51 = .ok (.ishl, 1) := by decide +kernel
theorem dX2_lettersRead_52 : decode cX2_lettersRead 52 = .ok (.ior, 1) := by decide +kernel
theorem dX2_lettersRead_53 : decode cX2_lettersRead 53 = .ok (.istore_n 1, 1) := by decide +kernel
theorem dX2_lettersRead_54 : decode cX2_lettersRead 54 = .ok (.iinc 2 1, 3) := by decide +kernel
theorem dX2_lettersRead_57 : decode cX2_lettersRead 57 = .ok (.goto (-50), 3) := by decide +kernel
theorem dX2_lettersRead_60 : decode cX2_lettersRead 60 = .ok (.iload_n 1, 1) := by decide +kernel
theorem dX2_lettersRead_61 : decode cX2_lettersRead 61 = .ok (.ireturn, 1) := by decide +kernel
theorem dX3_init_0 : decode cX3_init 0 = .ok (.aload_n 0, 1) := by decide +kernel
theorem dX3_init_1 : decode cX3_init 1 = .ok (.invokespecial 3, 3) := by decide +kernel
theorem dX3_init_4 : decode cX3_init 4 = .ok (.aload_n 0, 1) := by decide +kernel
theorem dX3_init_5 : decode cX3_init 5 = .ok (.sipush 256, 3) := by decide +kernel
theorem dX3_init_8 : decode cX3_init 8 = .ok (.newarray .long, 2) := by decide +kernel
theorem dX3_init_10 : decode cX3_init 10 = .ok (.putfield 9, 3) := by decide +kernel
theorem dX3_init_13 : decode cX3_init 13 = .ok (.aload_n 0, 1) := by decide +kernel
theorem dX3_init_14 : decode cX3_init 14 = .ok (.bipush 9, 2) := by decide +kernel
theorem dX3_init_16 : decode cX3_init 16 = .ok (.newarray .long, 2) := by decide +kernel
theorem dX3_init_18 : decode cX3_init 18 = .ok (.putfield 15, 3) := by decide +kernel
theorem dX3_init_21 : decode cX3_init 21 = .ok (.return_, 1) := by decide +kernel
set_option maxRecDepth 20000 in
theorem ggX3_slopesOfPower_X3_slopesOfChoices : GoodIn wsX3_slopesOfPower wsX3_slopesOfChoices := goodIn_r _ [7, 1, 12, 13] (by decide +kernel) (by decide +kernel)
set_option maxRecDepth 20000 in
theorem gX3_slopesOfPower_X3_slopesOfChoices : GoodIn wsX3_slopesOfPower (wsV RX3 18 RX3 yX3_slopesOfChoices wsX3_slopesOfChoices) := goodIn_app (goodIn_of _ (by decide +kernel)) ggX3_slopesOfPower_X3_slopesOfChoices
set_option maxRecDepth 20000 in
theorem ggX3_slopesOfPower_X4_raise : GoodIn wsX3_slopesOfPower wsX4_raise := goodIn_r _ [10, 11] (by decide +kernel) (by decide +kernel)
set_option maxRecDepth 20000 in
theorem gX3_slopesOfPower_X4_raise_n24 : GoodIn wsX3_slopesOfPower (wsX4_raise) := ggX3_slopesOfPower_X4_raise
theorem dX3_slopesOfPower_0 : decode cX3_slopesOfPower 0 = .ok (.aload_n 0, 1) := by decide +kernel
theorem dX3_slopesOfPower_1 : decode cX3_slopesOfPower 1 = .ok (.iload_n 2, 1) := by decide +kernel
theorem dX3_slopesOfPower_2 : decode cX3_slopesOfPower 2 = .ok (.invokevirtual 18, 3) := by decide +kernel
theorem dX3_slopesOfPower_5 : decode cX3_slopesOfPower 5 = .ok (.iconst 0, 1) := by decide +kernel
theorem dX3_slopesOfPower_6 : decode cX3_slopesOfPower 6 = .ok (.istore_n 3, 1) := by decide +kernel
theorem dX3_slopesOfPower_7 : decode cX3_slopesOfPower 7 = .ok (.iload_n 3, 1) := by decide +kernel
theorem dX3_slopesOfPower_8 : decode cX3_slopesOfPower 8 = .ok (.bipush 8, 2) := by decide +kernel
theorem dX3_slopesOfPower_10 : decode cX3_slopesOfPower 10 = .ok (.if_icmp .gt 47, 3) := by decide +kernel
theorem dX3_slopesOfPower_13 : decode cX3_slopesOfPower 13 = .ok (.aload_n 0, 1) := by decide +kernel
theorem dX3_slopesOfPower_14 : decode cX3_slopesOfPower 14 = .ok (.getfield 15, 3) := by decide +kernel
theorem dX3_slopesOfPower_17 : decode cX3_slopesOfPower 17 = .ok (.iload_n 3, 1) := by decide +kernel
theorem dX3_slopesOfPower_18 : decode cX3_slopesOfPower 18 = .ok (.iload_n 3, 1) := by decide +kernel
theorem dX3_slopesOfPower_19 : decode cX3_slopesOfPower 19 = .ok (.iload_n 2, 1) := by decide +kernel
theorem dX3_slopesOfPower_20 : decode cX3_slopesOfPower 20 = .ok (.if_icmp .gt 29, 3) := by decide +kernel
theorem dX3_slopesOfPower_23 : decode cX3_slopesOfPower 23 = .ok (.aload_n 0, 1) := by decide +kernel
theorem dX3_slopesOfPower_24 : decode cX3_slopesOfPower 24 = .ok (.getfield 15, 3) := by decide +kernel
theorem dX3_slopesOfPower_27 : decode cX3_slopesOfPower 27 = .ok (.iload_n 3, 1) := by decide +kernel
theorem dX3_slopesOfPower_28 : decode cX3_slopesOfPower 28 = .ok (.laload, 1) := by decide +kernel
theorem dX3_slopesOfPower_29 : decode cX3_slopesOfPower 29 = .ok (.ldc2_w 22, 3) := by decide +kernel
theorem dX3_slopesOfPower_32 : decode cX3_slopesOfPower 32 = .ok (.lrem, 1) := by decide +kernel
theorem dX3_slopesOfPower_33 : decode cX3_slopesOfPower 33 = .ok (.iload_n 1, 1) := by decide +kernel
theorem dX3_slopesOfPower_34 : decode cX3_slopesOfPower 34 = .ok (.iload_n 2, 1) := by decide +kernel
theorem dX3_slopesOfPower_35 : decode cX3_slopesOfPower 35 = .ok (.iload_n 3, 1) := by decide +kernel
theorem dX3_slopesOfPower_36 : decode cX3_slopesOfPower 36 = .ok (.isub, 1) := by decide +kernel
theorem dX3_slopesOfPower_37 : decode cX3_slopesOfPower 37 = .ok (.invokestatic 24, 3) := by decide +kernel
theorem dX3_slopesOfPower_40 : decode cX3_slopesOfPower 40 = .ok (.i2l, 1) := by decide +kernel
theorem dX3_slopesOfPower_41 : decode cX3_slopesOfPower 41 = .ok (.lmul, 1) := by decide +kernel
theorem dX3_slopesOfPower_42 : decode cX3_slopesOfPower 42 = .ok (.ldc2_w 22, 3) := by decide +kernel
theorem dX3_slopesOfPower_45 : decode cX3_slopesOfPower 45 = .ok (.lrem, 1) := by decide +kernel
theorem dX3_slopesOfPower_46 : decode cX3_slopesOfPower 46 = .ok (.goto 4, 3) := by decide +kernel
theorem dX3_slopesOfPower_49 : decode cX3_slopesOfPower 49 = .ok (.lconst 0, 1) := by decide +kernel
theorem dX3_slopesOfPower_50 : decode cX3_slopesOfPower 50 = .ok (.lastore, 1) := by decide +kernel
theorem dX3_slopesOfPower_51 : decode cX3_slopesOfPower 51 = .ok (.iinc 3 1, 3) := by decide +kernel
theorem dX3_slopesOfPower_54 : decode cX3_slopesOfPower 54 = .ok (.goto (-47), 3) := by decide +kernel
theorem dX3_slopesOfPower_57 : decode cX3_slopesOfPower 57 = .ok (.return_, 1) := by decide +kernel
set_option maxRecDepth 20000 in
theorem ggX3_slopesOfInverse_X4_raise : GoodIn wsX3_slopesOfInverse wsX4_raise := goodIn_r _ [6, 7] (by decide +kernel) (by decide +kernel)
set_option maxRecDepth 20000 in
theorem gX3_slopesOfInverse_X4_raise_n24 : GoodIn wsX3_slopesOfInverse (wsX4_raise) := ggX3_slopesOfInverse_X4_raise
set_option maxRecDepth 20000 in
theorem ggX3_slopesOfInverse_X4_reduce : GoodIn wsX3_slopesOfInverse wsX4_reduce := goodIn_r _ [9, 7] (by decide +kernel) (by decide +kernel)
set_option maxRecDepth 20000 in
theorem gX3_slopesOfInverse_X4_reduce_n29 : GoodIn wsX3_slopesOfInverse (wsX4_reduce) := ggX3_slopesOfInverse_X4_reduce
theorem dX3_slopesOfInverse_0 : decode cX3_slopesOfInverse 0 = .ok (.iload_n 1, 1) := by decide +kernel
theorem dX3_slopesOfInverse_1 : decode cX3_slopesOfInverse 1 = .ok (.ldc 28, 2) := by decide +kernel
theorem dX3_slopesOfInverse_3 : decode cX3_slopesOfInverse 3 = .ok (.invokestatic 24, 3) := by decide +kernel
theorem dX3_slopesOfInverse_6 : decode cX3_slopesOfInverse 6 = .ok (.i2l, 1) := by decide +kernel
theorem dX3_slopesOfInverse_7 : decode cX3_slopesOfInverse 7 = .ok (.lstore_n 2, 1) := by decide +kernel
theorem dX3_slopesOfInverse_8 : decode cX3_slopesOfInverse 8 = .ok (.aload_n 0, 1) := by decide +kernel
theorem dX3_slopesOfInverse_9 : decode cX3_slopesOfInverse 9 = .ok (.getfield 15, 3) := by decide +kernel
theorem dX3_slopesOfInverse_12 : decode cX3_slopesOfInverse 12 = .ok (.iconst 0, 1) := by decide +kernel
theorem dX3_slopesOfInverse_13 : decode cX3_slopesOfInverse 13 = .ok (.lload_n 2, 1) := by decide +kernel
theorem dX3_slopesOfInverse_14 : decode cX3_slopesOfInverse 14 = .ok (.lastore, 1) := by decide +kernel
theorem dX3_slopesOfInverse_15 : decode cX3_slopesOfInverse 15 = .ok (.iconst 1, 1) := by decide +kernel
theorem dX3_slopesOfInverse_16 : decode cX3_slopesOfInverse 16 = .ok (.istore 4, 2) := by decide +kernel
theorem dX3_slopesOfInverse_18 : decode cX3_slopesOfInverse 18 = .ok (.iload 4, 2) := by decide +kernel
theorem dX3_slopesOfInverse_20 : decode cX3_slopesOfInverse 20 = .ok (.bipush 8, 2) := by decide +kernel
theorem dX3_slopesOfInverse_22 : decode cX3_slopesOfInverse 22 = .ok (.if_icmp .gt 40, 3) := by decide +kernel
theorem dX3_slopesOfInverse_25 : decode cX3_slopesOfInverse 25 = .ok (.aload_n 0, 1) := by decide +kernel
theorem dX3_slopesOfInverse_26 : decode cX3_slopesOfInverse 26 = .ok (.getfield 15, 3) := by decide +kernel
theorem dX3_slopesOfInverse_29 : decode cX3_slopesOfInverse 29 = .ok (.iload 4, 2) := by decide +kernel
theorem dX3_slopesOfInverse_31 : decode cX3_slopesOfInverse 31 = .ok (.aload_n 0, 1) := by decide +kernel
theorem dX3_slopesOfInverse_32 : decode cX3_slopesOfInverse 32 = .ok (.getfield 15, 3) := by decide +kernel
theorem dX3_slopesOfInverse_35 : decode cX3_slopesOfInverse 35 = .ok (.iload 4, 2) := by decide +kernel
theorem dX3_slopesOfInverse_37 : decode cX3_slopesOfInverse 37 = .ok (.iconst 1, 1) := by decide +kernel
theorem dX3_slopesOfInverse_38 : decode cX3_slopesOfInverse 38 = .ok (.isub, 1) := by decide +kernel
theorem dX3_slopesOfInverse_39 : decode cX3_slopesOfInverse 39 = .ok (.laload, 1) := by decide +kernel
theorem dX3_slopesOfInverse_40 : decode cX3_slopesOfInverse 40 = .ok (.lneg, 1) := by decide +kernel
theorem dX3_slopesOfInverse_41 : decode cX3_slopesOfInverse 41 = .ok (.iload 4, 2) := by decide +kernel
theorem dX3_slopesOfInverse_43 : decode cX3_slopesOfInverse 43 = .ok (.i2l, 1) := by decide +kernel
theorem dX3_slopesOfInverse_44 : decode cX3_slopesOfInverse 44 = .ok (.lmul, 1) := by decide +kernel
theorem dX3_slopesOfInverse_45 : decode cX3_slopesOfInverse 45 = .ok (.ldc2_w 22, 3) := by decide +kernel
theorem dX3_slopesOfInverse_48 : decode cX3_slopesOfInverse 48 = .ok (.lrem, 1) := by decide +kernel
theorem dX3_slopesOfInverse_49 : decode cX3_slopesOfInverse 49 = .ok (.lload_n 2, 1) := by decide +kernel
theorem dX3_slopesOfInverse_50 : decode cX3_slopesOfInverse 50 = .ok (.lmul, 1) := by decide +kernel
theorem dX3_slopesOfInverse_51 : decode cX3_slopesOfInverse 51 = .ok (.invokestatic 29, 3) := by decide +kernel
theorem dX3_slopesOfInverse_54 : decode cX3_slopesOfInverse 54 = .ok (.i2l, 1) := by decide +kernel
theorem dX3_slopesOfInverse_55 : decode cX3_slopesOfInverse 55 = .ok (.lastore, 1) := by decide +kernel
theorem dX3_slopesOfInverse_56 : decode cX3_slopesOfInverse 56 = .ok (.iinc 4 1, 3) := by decide +kernel
theorem dX3_slopesOfInverse_59 : decode cX3_slopesOfInverse 59 = .ok (.goto (-41), 3) := by decide +kernel
theorem dX3_slopesOfInverse_62 : decode cX3_slopesOfInverse 62 = .ok (.return_, 1) := by decide +kernel
theorem dX3_slopesOfAllWays_0 : decode cX3_slopesOfAllWays 0 = .ok (.iconst 0, 1) := by decide +kernel
theorem dX3_slopesOfAllWays_1 : decode cX3_slopesOfAllWays 1 = .ok (.istore_n 1, 1) := by decide +kernel
theorem dX3_slopesOfAllWays_2 : decode cX3_slopesOfAllWays 2 = .ok (.iload_n 1, 1) := by decide +kernel
theorem dX3_slopesOfAllWays_3 : decode cX3_slopesOfAllWays 3 = .ok (.bipush 8, 2) := by decide +kernel
theorem dX3_slopesOfAllWays_5 : decode cX3_slopesOfAllWays 5 = .ok (.if_icmp .gt 16, 3) := by decide +kernel
theorem dX3_slopesOfAllWays_8 : decode cX3_slopesOfAllWays 8 = .ok (.aload_n 0, 1) := by decide +kernel
theorem dX3_slopesOfAllWays_9 : decode cX3_slopesOfAllWays 9 = .ok (.getfield 15, 3) := by decide +kernel
theorem dX3_slopesOfAllWays_12 : decode cX3_slopesOfAllWays 12 = .ok (.iload_n 1, 1) := by decide +kernel
theorem dX3_slopesOfAllWays_13 : decode cX3_slopesOfAllWays 13 = .ok (.lconst 1, 1) := by decide +kernel
theorem dX3_slopesOfAllWays_14 : decode cX3_slopesOfAllWays 14 = .ok (.lastore, 1) := by decide +kernel
theorem dX3_slopesOfAllWays_15 : decode cX3_slopesOfAllWays 15 = .ok (.iinc 1 1, 3) := by decide +kernel
theorem dX3_slopesOfAllWays_18 : decode cX3_slopesOfAllWays 18 = .ok (.goto (-16), 3) := by decide +kernel
theorem dX3_slopesOfAllWays_21 : decode cX3_slopesOfAllWays 21 = .ok (.return_, 1) := by decide +kernel
theorem dX3_slopesOfRoots_0 : decode cX3_slopesOfRoots 0 = .ok (.aload_n 0, 1) := by decide +kernel
theorem dX3_slopesOfRoots_1 : decode cX3_slopesOfRoots 1 = .ok (.getfield 15, 3) := by decide +kernel
theorem dX3_slopesOfRoots_4 : decode cX3_slopesOfRoots 4 = .ok (.iconst 0, 1) := by decide +kernel
theorem dX3_slopesOfRoots_5 : decode cX3_slopesOfRoots 5 = .ok (.lconst 0, 1) := by decide +kernel
theorem dX3_slopesOfRoots_6 : decode cX3_slopesOfRoots 6 = .ok (.lastore, 1) := by decide +kernel
theorem dX3_slopesOfRoots_7 : decode cX3_slopesOfRoots 7 = .ok (.aload_n 0, 1) := by decide +kernel
theorem dX3_slopesOfRoots_8 : decode cX3_slopesOfRoots 8 = .ok (.getfield 15, 3) := by decide +kernel
theorem dX3_slopesOfRoots_11 : decode cX3_slopesOfRoots 11 = .ok (.iconst 1, 1) := by decide +kernel
theorem dX3_slopesOfRoots_12 : decode cX3_slopesOfRoots 12 = .ok (.lconst 1, 1) := by decide +kernel
theorem dX3_slopesOfRoots_13 : decode cX3_slopesOfRoots 13 = .ok (.lastore, 1) := by decide +kernel
theorem dX3_slopesOfRoots_14 : decode cX3_slopesOfRoots 14 = .ok (.iconst 2, 1) := by decide +kernel
theorem dX3_slopesOfRoots_15 : decode cX3_slopesOfRoots 15 = .ok (.istore_n 1, 1) := by decide +kernel
theorem dX3_slopesOfRoots_16 : decode cX3_slopesOfRoots 16 = .ok (.iload_n 1, 1) := by decide +kernel
theorem dX3_slopesOfRoots_17 : decode cX3_slopesOfRoots 17 = .ok (.bipush 8, 2) := by decide +kernel
theorem dX3_slopesOfRoots_19 : decode cX3_slopesOfRoots 19 = .ok (.if_icmp .gt 29, 3) := by decide +kernel
theorem dX3_slopesOfRoots_22 : decode cX3_slopesOfRoots 22 = .ok (.aload_n 0, 1) := by decide +kernel
theorem dX3_slopesOfRoots_23 : decode cX3_slopesOfRoots 23 = .ok (.getfield 15, 3) := by decide +kernel
theorem dX3_slopesOfRoots_26 : decode cX3_slopesOfRoots 26 = .ok (.iload_n 1, 1) := by decide +kernel
theorem dX3_slopesOfRoots_27 : decode cX3_slopesOfRoots 27 = .ok (.aload_n 0, 1) := by decide +kernel
theorem dX3_slopesOfRoots_28 : decode cX3_slopesOfRoots 28 = .ok (.getfield 15, 3) := by decide +kernel
theorem dX3_slopesOfRoots_31 : decode cX3_slopesOfRoots 31 = .ok (.iload_n 1, 1) := by decide +kernel
theorem dX3_slopesOfRoots_32 : decode cX3_slopesOfRoots 32 = .ok (.iconst 1, 1) := by decide +kernel
theorem dX3_slopesOfRoots_33 : decode cX3_slopesOfRoots 33 = .ok (.isub, 1) := by decide +kernel
theorem dX3_slopesOfRoots_34 : decode cX3_slopesOfRoots 34 = .ok (.laload, 1) := by decide +kernel
theorem dX3_slopesOfRoots_35 : decode cX3_slopesOfRoots 35 = .ok (.lneg, 1) := by decide +kernel
theorem dX3_slopesOfRoots_36 : decode cX3_slopesOfRoots 36 = .ok (.iload_n 1, 1) := by decide +kernel
theorem dX3_slopesOfRoots_37 : decode cX3_slopesOfRoots 37 = .ok (.iconst 1, 1) := by decide +kernel
theorem dX3_slopesOfRoots_38 : decode cX3_slopesOfRoots 38 = .ok (.isub, 1) := by decide +kernel
theorem dX3_slopesOfRoots_39 : decode cX3_slopesOfRoots 39 = .ok (.i2l, 1) := by decide +kernel
theorem dX3_slopesOfRoots_40 : decode cX3_slopesOfRoots 40 = .ok (.lmul, 1) := by decide +kernel
theorem dX3_slopesOfRoots_41 : decode cX3_slopesOfRoots 41 = .ok (.lastore, 1) := by decide +kernel
theorem dX3_slopesOfRoots_42 : decode cX3_slopesOfRoots 42 = .ok (.iinc 1 1, 3) := by decide +kernel
theorem dX3_slopesOfRoots_45 : decode cX3_slopesOfRoots 45 = .ok (.goto (-29), 3) := by decide +kernel
theorem dX3_slopesOfRoots_48 : decode cX3_slopesOfRoots 48 = .ok (.return_, 1) := by decide +kernel
theorem dX3_slopesOfCount_0 : decode cX3_slopesOfCount 0 = .ok (.iconst 0, 1) := by decide +kernel
theorem dX3_slopesOfCount_1 : decode cX3_slopesOfCount 1 = .ok (.istore_n 2, 1) := by decide +kernel
theorem dX3_slopesOfCount_2 : decode cX3_slopesOfCount 2 = .ok (.iload_n 2, 1) := by decide +kernel
theorem dX3_slopesOfCount_3 : decode cX3_slopesOfCount 3 = .ok (.bipush 8, 2) := by decide +kernel
theorem dX3_slopesOfCount_5 : decode cX3_slopesOfCount 5 = .ok (.if_icmp .gt 25, 3) := by decide +kernel
theorem dX3_slopesOfCount_8 : decode cX3_slopesOfCount 8 = .ok (.aload_n 0, 1) := by decide +kernel
theorem dX3_slopesOfCount_9 : decode cX3_slopesOfCount 9 = .ok (.getfield 15, 3) := by decide +kernel
theorem dX3_slopesOfCount_12 : decode cX3_slopesOfCount 12 = .ok (.iload_n 2, 1) := by decide +kernel
theorem dX3_slopesOfCount_13 : decode cX3_slopesOfCount 13 = .ok (.iload_n 2, 1) := by decide +kernel
theorem dX3_slopesOfCount_14 : decode cX3_slopesOfCount 14 = .ok (.iload_n 1, 1) := by decide +kernel
theorem dX3_slopesOfCount_15 : decode cX3_slopesOfCount 15 = .ok (.if_icmp .ne 7, 3) := by decide +kernel
theorem dX3_slopesOfCount_18 : decode cX3_slopesOfCount 18 = .ok (.lconst 1, 1) := by decide +kernel
theorem dX3_slopesOfCount_19 : decode cX3_slopesOfCount 19 = .ok (.goto 4, 3) := by decide +kernel
theorem dX3_slopesOfCount_22 : decode cX3_slopesOfCount 22 = .ok (.lconst 0, 1) := by decide +kernel
theorem dX3_slopesOfCount_23 : decode cX3_slopesOfCount 23 = .ok (.lastore, 1) := by decide +kernel
theorem dX3_slopesOfCount_24 : decode cX3_slopesOfCount 24 = .ok (.iinc 2 1, 3) := by decide +kernel
theorem dX3_slopesOfCount_27 : decode cX3_slopesOfCount 27 = .ok (.goto (-25), 3) := by decide +kernel
theorem dX3_slopesOfCount_30 : decode cX3_slopesOfCount 30 = .ok (.return_, 1) := by decide +kernel
theorem dX3_slopesOfChoices_0 : decode cX3_slopesOfChoices 0 = .ok (.aload_n 0, 1) := by decide +kernel
theorem dX3_slopesOfChoices_1 : decode cX3_slopesOfChoices 1 = .ok (.getfield 15, 3) := by decide +kernel
theorem dX3_slopesOfChoices_4 : decode cX3_slopesOfChoices 4 = .ok (.iconst 0, 1) := by decide +kernel
theorem dX3_slopesOfChoices_5 : decode cX3_slopesOfChoices 5 = .ok (.lconst 1, 1) := by decide +kernel
theorem dX3_slopesOfChoices_6 : decode cX3_slopesOfChoices 6 = .ok (.lastore, 1) := by decide +kernel
theorem dX3_slopesOfChoices_7 : decode cX3_slopesOfChoices 7 = .ok (.iconst 1, 1) := by decide +kernel
theorem dX3_slopesOfChoices_8 : decode cX3_slopesOfChoices 8 = .ok (.istore_n 2, 1) := by decide +kernel
theorem dX3_slopesOfChoices_9 : decode cX3_slopesOfChoices 9 = .ok (.iload_n 2, 1) := by decide +kernel
theorem dX3_slopesOfChoices_10 : decode cX3_slopesOfChoices 10 = .ok (.bipush 8, 2) := by decide +kernel
theorem dX3_slopesOfChoices_12 : decode cX3_slopesOfChoices 12 = .ok (.if_icmp .gt 30, 3) := by decide +kernel
theorem dX3_slopesOfChoices_15 : decode cX3_slopesOfChoices 15 = .ok (.aload_n 0, 1) := by decide +kernel
theorem dX3_slopesOfChoices_16 : decode cX3_slopesOfChoices 16 = .ok (.getfield 15, 3) := by decide +kernel
theorem dX3_slopesOfChoices_19 : decode cX3_slopesOfChoices 19 = .ok (.iload_n 2, 1) := by decide +kernel
theorem dX3_slopesOfChoices_20 : decode cX3_slopesOfChoices 20 = .ok (.aload_n 0, 1) := by decide +kernel
theorem dX3_slopesOfChoices_21 : decode cX3_slopesOfChoices 21 = .ok (.getfield 15, 3) := by decide +kernel
theorem dX3_slopesOfChoices_24 : decode cX3_slopesOfChoices 24 = .ok (.iload_n 2, 1) := by decide +kernel
theorem dX3_slopesOfChoices_25 : decode cX3_slopesOfChoices 25 = .ok (.iconst 1, 1) := by decide +kernel
theorem dX3_slopesOfChoices_26 : decode cX3_slopesOfChoices 26 = .ok (.isub, 1) := by decide +kernel
theorem dX3_slopesOfChoices_27 : decode cX3_slopesOfChoices 27 = .ok (.laload, 1) := by decide +kernel
theorem dX3_slopesOfChoices_28 : decode cX3_slopesOfChoices 28 = .ok (.iload_n 1, 1) := by decide +kernel
theorem dX3_slopesOfChoices_29 : decode cX3_slopesOfChoices 29 = .ok (.iload_n 2, 1) := by decide +kernel
theorem dX3_slopesOfChoices_30 : decode cX3_slopesOfChoices 30 = .ok (.isub, 1) := by decide +kernel
theorem dX3_slopesOfChoices_31 : decode cX3_slopesOfChoices 31 = .ok (.iconst 1, 1) := by decide +kernel
theorem dX3_slopesOfChoices_32 : decode cX3_slopesOfChoices 32 = .ok (.iadd, 1) := by decide +kernel
theorem dX3_slopesOfChoices_33 : decode cX3_slopesOfChoices 33 = .ok (.i2l, 1) := by decide +kernel
theorem dX3_slopesOfChoices_34 : decode cX3_slopesOfChoices 34 = .ok (.lmul, 1) := by decide +kernel
theorem dX3_slopesOfChoices_35 : decode cX3_slopesOfChoices 35 = .ok (.lastore, 1) := by decide +kernel
theorem dX3_slopesOfChoices_36 : decode cX3_slopesOfChoices 36 = .ok (.iinc 2 1, 3) := by decide +kernel
theorem dX3_slopesOfChoices_39 : decode cX3_slopesOfChoices 39 = .ok (.goto (-30), 3) := by decide +kernel
theorem dX3_slopesOfChoices_42 : decode cX3_slopesOfChoices 42 = .ok (.return_, 1) := by decide +kernel
set_option maxRecDepth 20000 in
theorem ggX3_compose_X3_takeOut : GoodIn wsX3_compose wsX3_takeOut := goodIn_r _ [7, 1, 12, 13] (by decide +kernel) (by decide +kernel)
set_option maxRecDepth 20000 in
theorem gX3_compose_X3_takeOut : GoodIn wsX3_compose (wsV RX3 33 RX3 yX3_takeOut wsX3_takeOut) := goodIn_app (goodIn_of _ (by decide +kernel)) ggX3_compose_X3_takeOut
set_option maxRecDepth 20000 in
theorem ggX3_compose_X4_reduce : GoodIn wsX3_compose wsX4_reduce := goodIn_r _ [10, 11] (by decide +kernel) (by decide +kernel)
set_option maxRecDepth 20000 in
theorem gX3_compose_X4_reduce_n29 : GoodIn wsX3_compose (wsX4_reduce) := ggX3_compose_X4_reduce
theorem dX3_compose_0 : decode cX3_compose 0 = .ok (.iconst 1, 1) := by decide +kernel
theorem dX3_compose_1 : decode cX3_compose 1 = .ok (.iload_n 2, 1) := by decide +kernel
theorem dX3_compose_2 : decode cX3_compose 2 = .ok (.ishl, 1) := by decide +kernel
theorem dX3_compose_3 : decode cX3_compose 3 = .ok (.istore 4, 2) := by decide +kernel
theorem dX3_compose_5 : decode cX3_compose 5 = .ok (.aload_n 0, 1) := by decide +kernel
theorem dX3_compose_6 : decode cX3_compose 6 = .ok (.getfield 9, 3) := by decide +kernel
theorem dX3_compose_9 : decode cX3_compose 9 = .ok (.iconst 0, 1) := by decide +kernel
theorem dX3_compose_10 : decode cX3_compose 10 = .ok (.aload_n 0, 1) := by decide +kernel
theorem dX3_compose_11 : decode cX3_compose 11 = .ok (.getfield 15, 3) := by decide +kernel
theorem dX3_compose_14 : decode cX3_compose 14 = .ok (.iload_n 2, 1) := by decide +kernel
theorem dX3_compose_15 : decode cX3_compose 15 = .ok (.laload, 1) := by decide +kernel
theorem dX3_compose_16 : decode cX3_compose 16 = .ok (.lastore, 1) := by decide +kernel
theorem dX3_compose_17 : decode cX3_compose 17 = .ok (.iload_n 2, 1) := by decide +kernel
theorem dX3_compose_18 : decode cX3_compose 18 = .ok (.iconst 1, 1) := by decide +kernel
theorem dX3_compose_19 : decode cX3_compose 19 = .ok (.isub, 1) := by decide +kernel
theorem dX3_compose_20 : decode cX3_compose 20 = .ok (.istore 5, 2) := by decide +kernel
theorem dX3_compose_22 : decode cX3_compose 22 = .ok (.iload 5, 2) := by decide +kernel
theorem dX3_compose_24 : decode cX3_compose 24 = .ok (.ifCond .lt 81, 3) := by decide +kernel
theorem dX3_compose_27 : decode cX3_compose 27 = .ok (.iconst 1, 1) := by decide +kernel
theorem dX3_compose_28 : decode cX3_compose 28 = .ok (.iload 5, 2) := by decide +kernel
theorem dX3_compose_30 : decode cX3_compose 30 = .ok (.ishl, 1) := by decide +kernel
theorem dX3_compose_31 : decode cX3_compose 31 = .ok (.istore 6, 2) := by decide +kernel
theorem dX3_compose_33 : decode cX3_compose 33 = .ok (.iload 4, 2) := by decide +kernel
theorem dX3_compose_35 : decode cX3_compose 35 = .ok (.iload 6, 2) := by decide +kernel
theorem dX3_compose_37 : decode cX3_compose 37 = .ok (.isub, 1) := by decide +kernel
theorem dX3_compose_38 : decode cX3_compose 38 = .ok (.istore 7, 2) := by decide +kernel
theorem dX3_compose_40 : decode cX3_compose 40 = .ok (.iload 7, 2) := by decide +kernel
theorem dX3_compose_42 : decode cX3_compose 42 = .ok (.ifCond .le 44, 3) := by decide +kernel
theorem dX3_compose_45 : decode cX3_compose 45 = .ok (.aload_n 0, 1) := by decide +kernel
theorem dX3_compose_46 : decode cX3_compose 46 = .ok (.aload_n 1, 1) := by decide +kernel
theorem dX3_compose_47 : decode cX3_compose 47 = .ok (.iload 7, 2) := by decide +kernel
theorem dX3_compose_49 : decode cX3_compose 49 = .ok (.invokevirtual 33, 3) := by decide +kernel
theorem dX3_compose_52 : decode cX3_compose 52 = .ok (.lstore 8, 2) := by decide +kernel
theorem dX3_compose_54 : decode cX3_compose 54 = .ok (.aload_n 0, 1) := by decide +kernel
theorem dX3_compose_55 : decode cX3_compose 55 = .ok (.getfield 9, 3) := by decide +kernel
theorem dX3_compose_58 : decode cX3_compose 58 = .ok (.iload 7, 2) := by decide +kernel
theorem dX3_compose_60 : decode cX3_compose 60 = .ok (.iload_n 3, 1) := by decide +kernel
theorem dX3_compose_61 : decode cX3_compose 61 = .ok (.ifCond .eq 8, 3) := by decide +kernel
theorem dX3_compose_64 : decode cX3_compose 64 = .ok (.lload 8, 2) := by decide +kernel
theorem dX3_compose_66 : decode cX3_compose 66 = .ok (.goto 9, 3) := by decide +kernel
theorem dX3_compose_69 : decode cX3_compose 69 = .ok (.lload 8, 2) := by decide +kernel
theorem dX3_compose_71 : decode cX3_compose 71 = .ok (.invokestatic 29, 3) := by decide +kernel
theorem dX3_compose_74 : decode cX3_compose 74 = .ok (.i2l, 1) := by decide +kernel
theorem dX3_compose_75 : decode cX3_compose 75 = .ok (.lastore, 1) := by decide +kernel
theorem dX3_compose_76 : decode cX3_compose 76 = .ok (.iload 7, 2) := by decide +kernel
theorem dX3_compose_78 : decode cX3_compose 78 = .ok (.iload 6, 2) := by decide +kernel
theorem dX3_compose_80 : decode cX3_compose 80 = .ok (.isub, 1) := by decide +kernel
theorem dX3_compose_81 : decode cX3_compose 81 = .ok (.istore 7, 2) := by decide +kernel
theorem dX3_compose_83 : decode cX3_compose 83 = .ok (.goto (-43), 3) := by decide +kernel
theorem dX3_compose_86 : decode cX3_compose 86 = .ok (.aload_n 0, 1) := by decide +kernel
theorem dX3_compose_87 : decode cX3_compose 87 = .ok (.getfield 9, 3) := by decide +kernel
theorem dX3_compose_90 : decode cX3_compose 90 = .ok (.iconst 0, 1) := by decide +kernel
theorem dX3_compose_91 : decode cX3_compose 91 = .ok (.aload_n 0, 1) := by decide +kernel
theorem dX3_compose_92 : decode cX3_compose 92 = .ok (.getfield 15, 3) := by decide +kernel
theorem dX3_compose_95 : decode cX3_compose 95 = .ok (.iload 5, 2) := by decide +kernel
theorem dX3_compose_97 : decode cX3_compose 97 = .ok (.laload, 1) := by decide +kernel
theorem dX3_compose_98 : decode cX3_compose 98 = .ok (.lastore, 1) := by decide +kernel
theorem dX3_compose_99 : decode cX3_compose 99 = .ok (.iinc 5 (-1), 3) := by decide +kernel
theorem dX3_compose_102 : decode cX3_compose 102 = .ok (.goto (-80), 3) := by decide +kernel
theorem dX3_compose_105 : decode cX3_compose 105 = .ok (.return_, 1) := by decide +kernel
theorem dX3_takeOut_0 : decode cX3_takeOut 0 = .ok (.iload_n 2, 1) := by decide +kernel
theorem dX3_takeOut_1 : decode cX3_takeOut 1 = .ok (.iload_n 2, 1) := by decide +kernel
theorem dX3_takeOut_2 : decode cX3_takeOut 2 = .ok (.iconst 1, 1) := by decide +kernel
theorem dX3_takeOut_3 : decode cX3_takeOut 3 = .ok (.isub, 1) := by decide +kernel
theorem dX3_takeOut_4 : decode cX3_takeOut 4 = .ok (.iand, 1) := by decide +kernel
theorem dX3_takeOut_5 : decode cX3_takeOut 5 = .ok (.istore_n 3, 1) := by decide +kernel
theorem dX3_takeOut_6 : decode cX3_takeOut 6 = .ok (.iload_n 2, 1) := by decide +kernel
theorem dX3_takeOut_7 : decode cX3_takeOut 7 = .ok (.iload_n 3, 1) := by decide +kernel
theorem dX3_takeOut_8 : decode cX3_takeOut 8 = .ok (.ixor, 1) := by decide +kernel
theorem dX3_takeOut_9 : decode cX3_takeOut 9 = .ok (.istore 4, 2) := by decide +kernel
theorem dX3_takeOut_11 : decode cX3_takeOut 11 = .ok (.aload_n 1, 1) := by decide +kernel
theorem dX3_takeOut_12 : decode cX3_takeOut 12 = .ok (.iload 4, 2) := by decide +kernel
theorem dX3_takeOut_14 : decode cX3_takeOut 14 = .ok (.iaload, 1) := by decide +kernel
theorem dX3_takeOut_15 : decode cX3_takeOut 15 = .ok (.i2l, 1) := by decide +kernel
theorem dX3_takeOut_16 : decode cX3_takeOut 16 = .ok (.aload_n 0, 1) := by decide +kernel
theorem dX3_takeOut_17 : decode cX3_takeOut 17 = .ok (.getfield 9, 3) := by decide +kernel
theorem dX3_takeOut_20 : decode cX3_takeOut 20 = .ok (.iload_n 3, 1) := by decide +kernel
theorem dX3_takeOut_21 : decode cX3_takeOut 21 = .ok (.laload, 1) := by decide +kernel
theorem dX3_takeOut_22 : decode cX3_takeOut 22 = .ok (.lmul, 1) := by decide +kernel
theorem dX3_takeOut_23 : decode cX3_takeOut 23 = .ok (.lstore 5, 2) := by decide +kernel
theorem dX3_takeOut_25 : decode cX3_takeOut 25 = .ok (.iload_n 3, 1) := by decide +kernel
theorem dX3_takeOut_26 : decode cX3_takeOut 26 = .ok (.istore 7, 2) := by decide +kernel
theorem dX3_takeOut_28 : decode cX3_takeOut 28 = .ok (.iload 7, 2) := by decide +kernel
theorem dX3_takeOut_30 : decode cX3_takeOut 30 = .ok (.ifCond .le 37, 3) := by decide +kernel
theorem dX3_takeOut_33 : decode cX3_takeOut 33 = .ok (.lload 5, 2) := by decide +kernel
theorem dX3_takeOut_35 : decode cX3_takeOut 35 = .ok (.aload_n 1, 1) := by decide +kernel
theorem dX3_takeOut_36 : decode cX3_takeOut 36 = .ok (.iload 4, 2) := by decide +kernel
theorem dX3_takeOut_38 : decode cX3_takeOut 38 = .ok (.iload 7, 2) := by decide +kernel
theorem dX3_takeOut_40 : decode cX3_takeOut 40 = .ok (.ior, 1) := by decide +kernel
theorem dX3_takeOut_41 : decode cX3_takeOut 41 = .ok (.iaload, 1) := by decide +kernel
theorem dX3_takeOut_42 : decode cX3_takeOut 42 = .ok (.i2l, 1) := by decide +kernel
theorem dX3_takeOut_43 : decode cX3_takeOut 43 = .ok (.aload_n 0, 1) := by decide +kernel
theorem dX3_takeOut_44 : decode cX3_takeOut 44 = .ok (.getfield 9, 3) := by decide +kernel
theorem dX3_takeOut_47 : decode cX3_takeOut 47 = .ok (.iload_n 3, 1) := by decide +kernel
theorem dX3_takeOut_48 : decode cX3_takeOut 48 = .ok (.iload 7, 2) := by decide +kernel
theorem dX3_takeOut_50 : decode cX3_takeOut 50 = .ok (.ixor, 1) := by decide +kernel
theorem dX3_takeOut_51 : decode cX3_takeOut 51 = .ok (.laload, 1) := by decide +kernel
theorem dX3_takeOut_52 : decode cX3_takeOut 52 = .ok (.lmul, 1) := by decide +kernel
theorem dX3_takeOut_53 : decode cX3_takeOut 53 = .ok (.ladd, 1) := by decide +kernel
theorem dX3_takeOut_54 : decode cX3_takeOut 54 = .ok (.lstore 5, 2) := by decide +kernel
theorem dX3_takeOut_56 : decode cX3_takeOut 56 = .ok (.iload 7, 2) := by decide +kernel
theorem dX3_takeOut_58 : decode cX3_takeOut 58 = .ok (.iconst 1, 1) := by decide +kernel
theorem dX3_takeOut_59 : decode cX3_takeOut 59 = .ok (.isub, 1) := by decide +kernel
theorem dX3_takeOut_60 : decode cX3_takeOut 60 = .ok (.iload_n 3, 1) := by decide +kernel
theorem dX3_takeOut_61 : decode cX3_takeOut 61 = .ok (.iand, 1) := by decide +kernel
theorem dX3_takeOut_62 : decode cX3_takeOut 62 = .ok (.istore 7, 2) := by decide +kernel
theorem dX3_takeOut_64 : decode cX3_takeOut 64 = .ok (.goto (-36), 3) := by decide +kernel
theorem dX3_takeOut_67 : decode cX3_takeOut 67 = .ok (.lload 5, 2) := by decide +kernel
theorem dX3_takeOut_69 : decode cX3_takeOut 69 = .ok (.lreturn, 1) := by decide +kernel
set_option maxRecDepth 20000 in
theorem ggX4_init_X1_init : GoodIn wsX4_init wsX1_init := goodIn_r _ [27, 28, 2, 3, 29, 22, 30, 52, 53, 54, 55] (by decide +kernel) (by decide +kernel)
set_option maxRecDepth 20000 in
theorem gX4_init_X1_init_n9 : GoodIn wsX4_init (wsX1_init) := ggX4_init_X1_init
set_option maxRecDepth 20000 in
theorem ggX4_init_X0_init : GoodIn wsX4_init wsX0_init := goodIn_r _ [32, 33, 2, 3, 22, 34, 35, 36, 37, 38, 39, 40, 65, 66, 67, 68, 69, 70, 71] (by decide +kernel) (by decide +kernel)
set_option maxRecDepth 20000 in
theorem gX4_init_X0_init_n24 : GoodIn wsX4_init (wsX0_init) := ggX4_init_X0_init
set_option maxRecDepth 20000 in
theorem ggX4_init_X2_init : GoodIn wsX4_init wsX2_init := goodIn_r _ [42, 43, 2, 3, 44, 45, 22, 46, 72, 73, 74, 75, 76, 77, 78, 79, 80, 81] (by decide +kernel) (by decide +kernel)
set_option maxRecDepth 20000 in
theorem gX4_init_X2_init_n31 : GoodIn wsX4_init (wsX2_init) := ggX4_init_X2_init
set_option maxRecDepth 20000 in
theorem ggX4_init_X3_init : GoodIn wsX4_init wsX3_init := goodIn_r _ [48, 49, 2, 3, 37, 50, 51, 82, 83] (by decide +kernel) (by decide +kernel)
set_option maxRecDepth 20000 in
theorem gX4_init_X3_init_n38 : GoodIn wsX4_init (wsX3_init) := ggX4_init_X3_init
theorem dX4_init_0 : decode cX4_init 0 = .ok (.aload_n 0, 1) := by decide +kernel
theorem dX4_init_1 : decode cX4_init 1 = .ok (.invokespecial 1, 3) := by decide +kernel
theorem dX4_init_4 : decode cX4_init 4 = .ok (.aload_n 0, 1) := by decide +kernel
theorem dX4_init_5 : decode cX4_init 5 = .ok (.new 7, 3) := by decide +kernel
theorem dX4_init_8 : decode cX4_init 8 = .ok (.dup, 1) := by decide +kernel
theorem dX4_init_9 : decode cX4_init 9 = .ok (.invokespecial 9, 3) := by decide +kernel
theorem dX4_init_12 : decode cX4_init 12 = .ok (.putfield 10, 3) := by decide +kernel
theorem dX4_init_15 : decode cX4_init 15 = .ok (.aload_n 0, 1) := by decide +kernel
theorem dX4_init_16 : decode cX4_init 16 = .ok (.new 7, 3) := by decide +kernel
theorem dX4_init_19 : decode cX4_init 19 = .ok (.dup, 1) := by decide +kernel
theorem dX4_init_20 : decode cX4_init 20 = .ok (.invokespecial 9, 3) := by decide +kernel
theorem dX4_init_23 : decode cX4_init 23 = .ok (.putfield 16, 3) := by decide +kernel
theorem dX4_init_26 : decode cX4_init 26 = .ok (.aload_n 0, 1) := by decide +kernel
theorem dX4_init_27 : decode cX4_init 27 = .ok (.new 7, 3) := by decide +kernel
theorem dX4_init_30 : decode cX4_init 30 = .ok (.dup, 1) := by decide +kernel
theorem dX4_init_31 : decode cX4_init 31 = .ok (.invokespecial 9, 3) := by decide +kernel
theorem dX4_init_34 : decode cX4_init 34 = .ok (.putfield 19, 3) := by decide +kernel
theorem dX4_init_37 : decode cX4_init 37 = .ok (.aload_n 0, 1) := by decide +kernel
theorem dX4_init_38 : decode cX4_init 38 = .ok (.new 22, 3) := by decide +kernel
theorem dX4_init_41 : decode cX4_init 41 = .ok (.dup, 1) := by decide +kernel
theorem dX4_init_42 : decode cX4_init 42 = .ok (.invokespecial 24, 3) := by decide +kernel
theorem dX4_init_45 : decode cX4_init 45 = .ok (.putfield 25, 3) := by decide +kernel
theorem dX4_init_48 : decode cX4_init 48 = .ok (.aload_n 0, 1) := by decide +kernel
theorem dX4_init_49 : decode cX4_init 49 = .ok (.new 29, 3) := by decide +kernel
theorem dX4_init_52 : decode cX4_init 52 = .ok (.dup, 1) := by decide +kernel
theorem dX4_init_53 : decode cX4_init 53 = .ok (.invokespecial 31, 3) := by decide +kernel
theorem dX4_init_56 : decode cX4_init 56 = .ok (.putfield 32, 3) := by decide +kernel
theorem dX4_init_59 : decode cX4_init 59 = .ok (.aload_n 0, 1) := by decide +kernel
theorem dX4_init_60 : decode cX4_init 60 = .ok (.new 36, 3) := by decide +kernel
theorem dX4_init_63 : decode cX4_init 63 = .ok (.dup, 1) := by decide +kernel
theorem dX4_init_64 : decode cX4_init 64 = .ok (.invokespecial 38, 3) := by decide +kernel
theorem dX4_init_67 : decode cX4_init 67 = .ok (.putfield 39, 3) := by decide +kernel
theorem dX4_init_70 : decode cX4_init 70 = .ok (.aload_n 0, 1) := by decide +kernel
theorem dX4_init_71 : decode cX4_init 71 = .ok (.sipush 256, 3) := by decide +kernel
theorem dX4_init_74 : decode cX4_init 74 = .ok (.newarray .int, 2) := by decide +kernel
theorem dX4_init_76 : decode cX4_init 76 = .ok (.putfield 43, 3) := by decide +kernel
theorem dX4_init_79 : decode cX4_init 79 = .ok (.aload_n 0, 1) := by decide +kernel
theorem dX4_init_80 : decode cX4_init 80 = .ok (.sipush 256, 3) := by decide +kernel
theorem dX4_init_83 : decode cX4_init 83 = .ok (.newarray .int, 2) := by decide +kernel
theorem dX4_init_85 : decode cX4_init 85 = .ok (.putfield 47, 3) := by decide +kernel
theorem dX4_init_88 : decode cX4_init 88 = .ok (.aload_n 0, 1) := by decide +kernel
theorem dX4_init_89 : decode cX4_init 89 = .ok (.bipush 8, 2) := by decide +kernel
theorem dX4_init_91 : decode cX4_init 91 = .ok (.newarray .int, 2) := by decide +kernel
theorem dX4_init_93 : decode cX4_init 93 = .ok (.putfield 50, 3) := by decide +kernel
theorem dX4_init_96 : decode cX4_init 96 = .ok (.return_, 1) := by decide +kernel
set_option maxRecDepth 20000 in
theorem ggX4_feed_X2_hasRoom : GoodIn wsX4_feed wsX2_hasRoom := goodIn_r _ [7, 8, 23, 24, 25, 26, 27, 28, 29, 30, 31, 32] (by decide +kernel) (by decide +kernel)
set_option maxRecDepth 20000 in
theorem gX4_feed_X2_hasRoom : GoodIn wsX4_feed (wsV RX4 53 RX2 yX2_hasRoom wsX2_hasRoom) := goodIn_app (goodIn_of _ (by decide +kernel)) ggX4_feed_X2_hasRoom
set_option maxRecDepth 20000 in
theorem ggX4_feed_X2_take : GoodIn wsX4_feed wsX2_take := goodIn_r _ [12, 8, 13, 23, 24, 25, 26, 27, 28, 29, 30, 31, 32] (by decide +kernel) (by decide +kernel)
set_option maxRecDepth 20000 in
theorem gX4_feed_X2_take : GoodIn wsX4_feed (wsV RX4 57 RX2 yX2_take wsX2_take) := goodIn_app (goodIn_of _ (by decide +kernel)) ggX4_feed_X2_take
theorem dX4_feed_0 : decode cX4_feed 0 = .ok (.aload_n 0, 1) := by decide +kernel
theorem dX4_feed_1 : decode cX4_feed 1 = .ok (.getfield 32, 3) := by decide +kernel
theorem dX4_feed_4 : decode cX4_feed 4 = .ok (.invokevirtual 53, 3) := by decide +kernel
theorem dX4_feed_7 : decode cX4_feed 7 = .ok (.ifCond .ne 5, 3) := by decide +kernel
theorem dX4_feed_10 : decode cX4_feed 10 = .ok (.iconst (-1), 1) := by decide +kernel
theorem dX4_feed_11 : decode cX4_feed 11 = .ok (.ireturn, 1) := by decide +kernel
theorem dX4_feed_12 : decode cX4_feed 12 = .ok (.aload_n 0, 1) := by decide +kernel
theorem dX4_feed_13 : decode cX4_feed 13 = .ok (.getfield 32, 3) := by decide +kernel
theorem dX4_feed_16 : decode cX4_feed 16 = .ok (.iload_n 1, 1) := by decide +kernel
theorem dX4_feed_17 : decode cX4_feed 17 = .ok (.invokevirtual 57, 3) := by decide +kernel
theorem dX4_feed_20 : decode cX4_feed 20 = .ok (.aload_n 0, 1) := by decide +kernel
theorem dX4_feed_21 : decode cX4_feed 21 = .ok (.getfield 32, 3) := by decide +kernel
theorem dX4_feed_24 : decode cX4_feed 24 = .ok (.iload_n 2, 1) := by decide +kernel
theorem dX4_feed_25 : decode cX4_feed 25 = .ok (.invokevirtual 57, 3) := by decide +kernel
theorem dX4_feed_28 : decode cX4_feed 28 = .ok (.aload_n 0, 1) := by decide +kernel
theorem dX4_feed_29 : decode cX4_feed 29 = .ok (.getfield 32, 3) := by decide +kernel
theorem dX4_feed_32 : decode cX4_feed 32 = .ok (.iload_n 3, 1) := by decide +kernel
theorem dX4_feed_33 : decode cX4_feed 33 = .ok (.invokevirtual 57, 3) := by decide +kernel
theorem dX4_feed_36 : decode cX4_feed 36 = .ok (.aload_n 0, 1) := by decide +kernel
theorem dX4_feed_37 : decode cX4_feed 37 = .ok (.getfield 32, 3) := by decide +kernel
theorem dX4_feed_40 : decode cX4_feed 40 = .ok (.iload 4, 2) := by decide +kernel
theorem dX4_feed_42 : decode cX4_feed 42 = .ok (.invokevirtual 57, 3) := by decide +kernel
theorem dX4_feed_45 : decode cX4_feed 45 = .ok (.aload_n 0, 1) := by decide +kernel
theorem dX4_feed_46 : decode cX4_feed 46 = .ok (.getfield 32, 3) := by decide +kernel
theorem dX4_feed_49 : decode cX4_feed 49 = .ok (.iload 5, 2) := by decide +kernel
theorem dX4_feed_51 : decode cX4_feed 51 = .ok (.invokevirtual 57, 3) := by decide +kernel
theorem dX4_feed_54 : decode cX4_feed 54 = .ok (.aload_n 0, 1) := by decide +kernel
theorem dX4_feed_55 : decode cX4_feed 55 = .ok (.getfield 32, 3) := by decide +kernel
theorem dX4_feed_58 : decode cX4_feed 58 = .ok (.getfield 61, 3) := by decide +kernel
theorem dX4_feed_61 : decode cX4_feed 61 = .ok (.ireturn, 1) := by decide +kernel
theorem dX4_end_0 : decode cX4_end 0 = .ok (.iload_n 1, 1) := by decide +kernel
theorem dX4_end_1 : decode cX4_end 1 = .ok (.ifCond .lt 14, 3) := by decide +kernel
theorem dX4_end_4 : decode cX4_end 4 = .ok (.iload_n 1, 1) := by decide +kernel
theorem dX4_end_5 : decode cX4_end 5 = .ok (.aload_n 0, 1) := by decide +kernel
theorem dX4_end_6 : decode cX4_end 6 = .ok (.getfield 32, 3) := by decide +kernel
theorem dX4_end_9 : decode cX4_end 9 = .ok (.getfield 61, 3) := by decide +kernel
theorem dX4_end_12 : decode cX4_end 12 = .ok (.if_icmp .le 5, 3) := by decide +kernel
theorem dX4_end_15 : decode cX4_end 15 = .ok (.iconst 0, 1) := by decide +kernel
theorem dX4_end_16 : decode cX4_end 16 = .ok (.ireturn, 1) := by decide +kernel
theorem dX4_end_17 : decode cX4_end 17 = .ok (.aload_n 0, 1) := by decide +kernel
theorem dX4_end_18 : decode cX4_end 18 = .ok (.getfield 32, 3) := by decide +kernel
theorem dX4_end_21 : decode cX4_end 21 = .ok (.iload_n 1, 1) := by decide +kernel
theorem dX4_end_22 : decode cX4_end 22 = .ok (.putfield 61, 3) := by decide +kernel
theorem dX4_end_25 : decode cX4_end 25 = .ok (.iconst 1, 1) := by decide +kernel
theorem dX4_end_26 : decode cX4_end 26 = .ok (.ireturn, 1) := by decide +kernel
set_option maxRecDepth 20000 in
theorem ggX4_text_X2_readAll : GoodIn wsX4_text wsX2_readAll := goodIn_r _ [14, 15, 16, 17, 18, 19, 20, 21, 22, 13, 23, 24, 25, 26, 27, 28, 29, 30, 31, 32, 33, 34, 35, 36, 37, 38, 39, 40, 41, 42, 43, 44, 45, 46, 47, 48, 49, 50, 51, 52, 53, 54, 55, 56, 57, 58, 59, 60, 61, 62, 63, 64, 65, 66, 67, 68, 69, 70, 71, 72, 73, 74, 75, 76, 77, 78, 79, 80, 81, 82, 83, 84, 85, 86, 87, 88, 89, 90, 91, 92, 93, 94, 95, 96, 97, 98, 99, 100, 101, 102, 103, 104, 105, 106, 107, 108, 109, 110, 111, 112, 113, 114, 115, 116, 117, 118, 119, 120, 121, 122, 123, 124, 125, 126, 127, 128, 129, 130, 131, 132, 133, 161, 162, 163, 164, 165, 166, 167, 168, 169, 170] (by decide +kernel) (by decide +kernel)
set_option maxRecDepth 20000 in
theorem gX4_text_X2_readAll : GoodIn wsX4_text (wsV RX4 65 RX2 yX2_readAll wsX2_readAll) := goodIn_app (goodIn_of _ (by decide +kernel)) ggX4_text_X2_readAll
set_option maxRecDepth 20000 in
theorem ggX4_text_X1_begin : GoodIn wsX4_text wsX1_begin := goodIn_r _ [138, 139, 140, 141, 142, 143, 144, 145, 171, 172, 173, 174] (by decide +kernel) (by decide +kernel)
set_option maxRecDepth 20000 in
theorem gX4_text_X1_begin : GoodIn wsX4_text (wsV RX4 85 RX1 yX1_begin wsX1_begin) := goodIn_app (goodIn_of _ (by decide +kernel)) ggX4_text_X1_begin
set_option maxRecDepth 20000 in
theorem ggX4_text_X0_forget : GoodIn wsX4_text wsX0_forget := goodIn_r _ [150, 151, 175, 176, 177, 178, 179, 180, 181] (by decide +kernel) (by decide +kernel)
set_option maxRecDepth 20000 in
theorem gX4_text_X0_forget : GoodIn wsX4_text (wsV RX4 89 RX0 yX0_forget wsX0_forget) := goodIn_app (goodIn_of _ (by decide +kernel)) ggX4_text_X0_forget
theorem dX4_text_0 : decode cX4_text 0 = .ok (.aload_n 0, 1) := by decide +kernel
theorem dX4_text_1 : decode cX4_text 1 = .ok (.getfield 32, 3) := by decide +kernel
theorem dX4_text_4 : decode cX4_text 4 = .ok (.invokevirtual 65, 3) := by decide +kernel
theorem dX4_text_7 : decode cX4_text 7 = .ok (.istore_n 1, 1) := by decide +kernel
theorem dX4_text_8 : decode cX4_text 8 = .ok (.aload_n 0, 1) := by decide +kernel
theorem dX4_text_9 : decode cX4_text 9 = .ok (.getfield 32, 3) := by decide +kernel
theorem dX4_text_12 : decode cX4_text 12 = .ok (.iconst 0, 1) := by decide +kernel
theorem dX4_text_13 : decode cX4_text 13 = .ok (.putfield 61, 3) := by decide +kernel
theorem dX4_text_16 : decode cX4_text 16 = .ok (.aload_n 0, 1) := by decide +kernel
theorem dX4_text_17 : decode cX4_text 17 = .ok (.getfield 32, 3) := by decide +kernel
theorem dX4_text_20 : decode cX4_text 20 = .ok (.getfield 69, 3) := by decide +kernel
theorem dX4_text_23 : decode cX4_text 23 = .ok (.ifCond .eq 13, 3) := by decide +kernel
theorem dX4_text_26 : decode cX4_text 26 = .ok (.iconst (-1), 1) := by decide +kernel
theorem dX4_text_27 : decode cX4_text 27 = .ok (.aload_n 0, 1) := by decide +kernel
theorem dX4_text_28 : decode cX4_text 28 = .ok (.getfield 32, 3) := by decide +kernel
theorem dX4_text_31 : decode cX4_text 31 = .ok (.getfield 72, 3) := by decide +kernel
theorem dX4_text_34 : decode cX4_text 34 = .ok (.isub, 1) := by decide +kernel
theorem dX4_text_35 : decode cX4_text 35 = .ok (.ireturn, 1) := by decide +kernel
theorem dX4_text_36 : decode cX4_text 36 = .ok (.aload_n 0, 1) := by decide +kernel
theorem dX4_text_37 : decode cX4_text 37 = .ok (.getfield 10, 3) := by decide +kernel
theorem dX4_text_40 : decode cX4_text 40 = .ok (.aload_n 0, 1) := by decide +kernel
theorem dX4_text_41 : decode cX4_text 41 = .ok (.getfield 32, 3) := by decide +kernel
theorem dX4_text_44 : decode cX4_text 44 = .ok (.getfield 75, 3) := by decide +kernel
theorem dX4_text_47 : decode cX4_text 47 = .ok (.aload_n 0, 1) := by decide +kernel
theorem dX4_text_48 : decode cX4_text 48 = .ok (.getfield 32, 3) := by decide +kernel
theorem dX4_text_51 : decode cX4_text 51 = .ok (.getfield 78, 3) := by decide +kernel
theorem dX4_text_54 : decode cX4_text 54 = .ok (.aload_n 0, 1) := by decide +kernel
theorem dX4_text_55 : decode cX4_text 55 = .ok (.getfield 32, 3) := by decide +kernel
theorem dX4_text_58 : decode cX4_text 58 = .ok (.getfield 82, 3) := by decide +kernel
theorem dX4_text_61 : decode cX4_text 61 = .ok (.invokevirtual 85, 3) := by decide +kernel
theorem dX4_text_64 : decode cX4_text 64 = .ok (.aload_n 0, 1) := by decide +kernel
theorem dX4_text_65 : decode cX4_text 65 = .ok (.getfield 25, 3) := by decide +kernel
theorem dX4_text_68 : decode cX4_text 68 = .ok (.invokevirtual 89, 3) := by decide +kernel
theorem dX4_text_71 : decode cX4_text 71 = .ok (.iload_n 1, 1) := by decide +kernel
theorem dX4_text_72 : decode cX4_text 72 = .ok (.ireturn, 1) := by decide +kernel
theorem dX4_fault_0 : decode cX4_fault 0 = .ok (.aload_n 0, 1) := by decide +kernel
theorem dX4_fault_1 : decode cX4_fault 1 = .ok (.getfield 32, 3) := by decide +kernel
theorem dX4_fault_4 : decode cX4_fault 4 = .ok (.getfield 69, 3) := by decide +kernel
theorem dX4_fault_7 : decode cX4_fault 7 = .ok (.ireturn, 1) := by decide +kernel
set_option maxRecDepth 20000 in
theorem ggX4_now_X1_countTold : GoodIn wsX4_now wsX1_countTold := goodIn_r _ [11, 12, 34, 35, 36, 37] (by decide +kernel) (by decide +kernel)
set_option maxRecDepth 20000 in
theorem gX4_now_X1_countTold : GoodIn wsX4_now (wsV RX4 93 RX1 yX1_countTold wsX1_countTold) := goodIn_app (goodIn_of _ (by decide +kernel)) ggX4_now_X1_countTold
set_option maxRecDepth 20000 in
theorem ggX4_now_X1_countPairs : GoodIn wsX4_now wsX1_countPairs := goodIn_r _ [16, 17, 18, 19, 20, 21, 22, 23, 24, 34, 35, 36, 37] (by decide +kernel) (by decide +kernel)
set_option maxRecDepth 20000 in
theorem gX4_now_X1_countPairs : GoodIn wsX4_now (wsV RX4 96 RX1 yX1_countPairs wsX1_countPairs) := goodIn_app (goodIn_of _ (by decide +kernel)) ggX4_now_X1_countPairs
theorem dX4_now_0 : decode cX4_now 0 = .ok (.iload_n 1, 1) := by decide +kernel
theorem dX4_now_1 : decode cX4_now 1 = .ok (.tableswitch 75 0 4 #[35, 43, 51, 59, 67], 35) := by decide +kernel
theorem dX4_now_36 : decode cX4_now 36 = .ok (.aload_n 0, 1) := by decide +kernel
theorem dX4_now_37 : decode cX4_now 37 = .ok (.getfield 10, 3) := by decide +kernel
theorem dX4_now_40 : decode cX4_now 40 = .ok (.getfield 92, 3) := by decide +kernel
theorem dX4_now_43 : decode cX4_now 43 = .ok (.ireturn, 1) := by decide +kernel
theorem dX4_now_44 : decode cX4_now 44 = .ok (.aload_n 0, 1) := by decide +kernel
theorem dX4_now_45 : decode cX4_now 45 = .ok (.getfield 10, 3) := by decide +kernel
theorem dX4_now_48 : decode cX4_now 48 = .ok (.invokevirtual 93, 3) := by decide +kernel
theorem dX4_now_51 : decode cX4_now 51 = .ok (.ireturn, 1) := by decide +kernel
theorem dX4_now_52 : decode cX4_now 52 = .ok (.aload_n 0, 1) := by decide +kernel
theorem dX4_now_53 : decode cX4_now 53 = .ok (.getfield 10, 3) := by decide +kernel
theorem dX4_now_56 : decode cX4_now 56 = .ok (.invokevirtual 96, 3) := by decide +kernel
theorem dX4_now_59 : decode cX4_now 59 = .ok (.ireturn, 1) := by decide +kernel
theorem dX4_now_60 : decode cX4_now 60 = .ok (.aload_n 0, 1) := by decide +kernel
theorem dX4_now_61 : decode cX4_now 61 = .ok (.getfield 25, 3) := by decide +kernel
theorem dX4_now_64 : decode cX4_now 64 = .ok (.getfield 99, 3) := by decide +kernel
theorem dX4_now_67 : decode cX4_now 67 = .ok (.ireturn, 1) := by decide +kernel
theorem dX4_now_68 : decode cX4_now 68 = .ok (.aload_n 0, 1) := by decide +kernel
theorem dX4_now_69 : decode cX4_now 69 = .ok (.getfield 32, 3) := by decide +kernel
theorem dX4_now_72 : decode cX4_now 72 = .ok (.getfield 61, 3) := by decide +kernel
theorem dX4_now_75 : decode cX4_now 75 = .ok (.ireturn, 1) := by decide +kernel
theorem dX4_now_76 : decode cX4_now 76 = .ok (.iconst (-1), 1) := by decide +kernel
theorem dX4_now_77 : decode cX4_now 77 = .ok (.ireturn, 1) := by decide +kernel
set_option maxRecDepth 20000 in
theorem ggX4_weight_X1_hasSet : GoodIn wsX4_weight wsX1_hasSet := goodIn_r _ [7, 8, 9, 10, 6, 11, 12, 22, 23, 24, 25] (by decide +kernel) (by decide +kernel)
set_option maxRecDepth 20000 in
theorem gX4_weight_X1_hasSet : GoodIn wsX4_weight (wsV RX4 102 RX1 yX1_hasSet wsX1_hasSet) := goodIn_app (goodIn_of _ (by decide +kernel)) ggX4_weight_X1_hasSet
theorem dX4_weight_0 : decode cX4_weight 0 = .ok (.aload_n 0, 1) := by decide +kernel
theorem dX4_weight_1 : decode cX4_weight 1 = .ok (.getfield 10, 3) := by decide +kernel
theorem dX4_weight_4 : decode cX4_weight 4 = .ok (.iload_n 1, 1) := by decide +kernel
theorem dX4_weight_5 : decode cX4_weight 5 = .ok (.invokevirtual 102, 3) := by decide +kernel
theorem dX4_weight_8 : decode cX4_weight 8 = .ok (.ifCond .eq 17, 3) := by decide +kernel
theorem dX4_weight_11 : decode cX4_weight 11 = .ok (.aload_n 0, 1) := by decide +kernel
theorem dX4_weight_12 : decode cX4_weight 12 = .ok (.getfield 10, 3) := by decide +kernel
theorem dX4_weight_15 : decode cX4_weight 15 = .ok (.getfield 106, 3) := by decide +kernel
theorem dX4_weight_18 : decode cX4_weight 18 = .ok (.iconst 4, 1) := by decide +kernel
theorem dX4_weight_19 : decode cX4_weight 19 = .ok (.aaload, 1) := by decide +kernel
theorem dX4_weight_20 : decode cX4_weight 20 = .ok (.iload_n 1, 1) := by decide +kernel
theorem dX4_weight_21 : decode cX4_weight 21 = .ok (.iaload, 1) := by decide +kernel
theorem dX4_weight_22 : decode cX4_weight 22 = .ok (.goto 4, 3) := by decide +kernel
theorem dX4_weight_25 : decode cX4_weight 25 = .ok (.iconst (-1), 1) := by decide +kernel
theorem dX4_weight_26 : decode cX4_weight 26 = .ok (.ireturn, 1) := by decide +kernel
set_option maxRecDepth 20000 in
theorem ggX4_joined_X1_hasThing : GoodIn wsX4_joined wsX1_hasThing := goodIn_r _ [6, 7, 22, 23, 24, 25] (by decide +kernel) (by decide +kernel)
set_option maxRecDepth 20000 in
theorem gX4_joined_X1_hasThing : GoodIn wsX4_joined (wsV RX4 110 RX1 yX1_hasThing wsX1_hasThing) := goodIn_app (goodIn_of _ (by decide +kernel)) ggX4_joined_X1_hasThing
set_option maxRecDepth 20000 in
theorem ggX4_joined_X1_mates : GoodIn wsX4_joined wsX1_mates := goodIn_r _ [11, 12, 22, 23, 24, 25] (by decide +kernel) (by decide +kernel)
set_option maxRecDepth 20000 in
theorem gX4_joined_X1_mates : GoodIn wsX4_joined (wsV RX4 113 RX1 yX1_mates wsX1_mates) := goodIn_app (goodIn_of _ (by decide +kernel)) ggX4_joined_X1_mates
theorem dX4_joined_0 : decode cX4_joined 0 = .ok (.aload_n 0, 1) := by decide +kernel
theorem dX4_joined_1 : decode cX4_joined 1 = .ok (.getfield 10, 3) := by decide +kernel
theorem dX4_joined_4 : decode cX4_joined 4 = .ok (.iload_n 1, 1) := by decide +kernel
theorem dX4_joined_5 : decode cX4_joined 5 = .ok (.invokevirtual 110, 3) := by decide +kernel
theorem dX4_joined_8 : decode cX4_joined 8 = .ok (.ifCond .eq 14, 3) := by decide +kernel
theorem dX4_joined_11 : decode cX4_joined 11 = .ok (.aload_n 0, 1) := by decide +kernel
theorem dX4_joined_12 : decode cX4_joined 12 = .ok (.getfield 10, 3) := by decide +kernel
theorem dX4_joined_15 : decode cX4_joined 15 = .ok (.iload_n 1, 1) := by decide +kernel
theorem dX4_joined_16 : decode cX4_joined 16 = .ok (.invokevirtual 113, 3) := by decide +kernel
theorem dX4_joined_19 : decode cX4_joined 19 = .ok (.goto 4, 3) := by decide +kernel
theorem dX4_joined_22 : decode cX4_joined 22 = .ok (.iconst (-1), 1) := by decide +kernel
theorem dX4_joined_23 : decode cX4_joined 23 = .ok (.ireturn, 1) := by decide +kernel
set_option maxRecDepth 20000 in
theorem ggX4_at_X1_hasRow : GoodIn wsX4_at wsX1_hasRow := goodIn_r _ [7, 8, 26, 27, 28, 29] (by decide +kernel) (by decide +kernel)
set_option maxRecDepth 20000 in
theorem gX4_at_X1_hasRow : GoodIn wsX4_at (wsV RX4 117 RX1 yX1_hasRow wsX1_hasRow) := goodIn_app (goodIn_of _ (by decide +kernel)) ggX4_at_X1_hasRow
set_option maxRecDepth 20000 in
theorem ggX4_at_X1_hasSet : GoodIn wsX4_at wsX1_hasSet := goodIn_r _ [12, 13, 14, 15, 6, 16, 8, 26, 27, 28, 29] (by decide +kernel) (by decide +kernel)
set_option maxRecDepth 20000 in
theorem gX4_at_X1_hasSet : GoodIn wsX4_at (wsV RX4 102 RX1 yX1_hasSet wsX1_hasSet) := goodIn_app (goodIn_of _ (by decide +kernel)) ggX4_at_X1_hasSet
theorem dX4_at_0 : decode cX4_at 0 = .ok (.aload_n 0, 1) := by decide +kernel
theorem dX4_at_1 : decode cX4_at 1 = .ok (.getfield 10, 3) := by decide +kernel
theorem dX4_at_4 : decode cX4_at 4 = .ok (.iload_n 1, 1) := by decide +kernel
theorem dX4_at_5 : decode cX4_at 5 = .ok (.invokevirtual 117, 3) := by decide +kernel
theorem dX4_at_8 : decode cX4_at 8 = .ok (.ifCond .eq 28, 3) := by decide +kernel
theorem dX4_at_11 : decode cX4_at 11 = .ok (.aload_n 0, 1) := by decide +kernel
theorem dX4_at_12 : decode cX4_at 12 = .ok (.getfield 10, 3) := by decide +kernel
theorem dX4_at_15 : decode cX4_at 15 = .ok (.iload_n 2, 1) := by decide +kernel
theorem dX4_at_16 : decode cX4_at 16 = .ok (.invokevirtual 102, 3) := by decide +kernel
theorem dX4_at_19 : decode cX4_at 19 = .ok (.ifCond .eq 17, 3) := by decide +kernel
theorem dX4_at_22 : decode cX4_at 22 = .ok (.aload_n 0, 1) := by decide +kernel
theorem dX4_at_23 : decode cX4_at 23 = .ok (.getfield 10, 3) := by decide +kernel
theorem dX4_at_26 : decode cX4_at 26 = .ok (.getfield 106, 3) := by decide +kernel
theorem dX4_at_29 : decode cX4_at 29 = .ok (.iload_n 1, 1) := by decide +kernel
theorem dX4_at_30 : decode cX4_at 30 = .ok (.aaload, 1) := by decide +kernel
theorem dX4_at_31 : decode cX4_at 31 = .ok (.iload_n 2, 1) := by decide +kernel
theorem dX4_at_32 : decode cX4_at 32 = .ok (.iaload, 1) := by decide +kernel
theorem dX4_at_33 : decode cX4_at 33 = .ok (.goto 4, 3) := by decide +kernel
theorem dX4_at_36 : decode cX4_at 36 = .ok (.iconst (-1), 1) := by decide +kernel
theorem dX4_at_37 : decode cX4_at 37 = .ok (.ireturn, 1) := by decide +kernel
set_option maxRecDepth 20000 in
theorem ggX4_put_X1_hasRow : GoodIn wsX4_put wsX1_hasRow := goodIn_r _ [8, 9, 56, 57, 58, 59] (by decide +kernel) (by decide +kernel)
set_option maxRecDepth 20000 in
theorem gX4_put_X1_hasRow : GoodIn wsX4_put (wsV RX4 117 RX1 yX1_hasRow wsX1_hasRow) := goodIn_app (goodIn_of _ (by decide +kernel)) ggX4_put_X1_hasRow
set_option maxRecDepth 20000 in
theorem ggX4_put_X1_hasSet : GoodIn wsX4_put wsX1_hasSet := goodIn_r _ [13, 14, 15, 16, 7, 17, 9, 56, 57, 58, 59] (by decide +kernel) (by decide +kernel)
set_option maxRecDepth 20000 in
theorem gX4_put_X1_hasSet : GoodIn wsX4_put (wsV RX4 102 RX1 yX1_hasSet wsX1_hasSet) := goodIn_app (goodIn_of _ (by decide +kernel)) ggX4_put_X1_hasSet
set_option maxRecDepth 20000 in
theorem ggX4_put_X0_keepLine : GoodIn wsX4_put wsX0_keepLine := goodIn_r _ [22, 23, 24, 25, 26, 27, 28, 29, 30, 31, 32, 33, 34, 21, 35, 36, 37, 38, 39, 40, 41, 56, 57, 58, 59, 60, 61, 62, 63, 64, 65, 66] (by decide +kernel) (by decide +kernel)
set_option maxRecDepth 20000 in
theorem gX4_put_X0_keepLine : GoodIn wsX4_put (wsV RX4 120 RX0 yX0_keepLine wsX0_keepLine) := goodIn_app (goodIn_of _ (by decide +kernel)) ggX4_put_X0_keepLine
set_option maxRecDepth 20000 in
theorem ggX4_put_X4_reduce : GoodIn wsX4_put wsX4_reduce := goodIn_r _ [45, 46] (by decide +kernel) (by decide +kernel)
set_option maxRecDepth 20000 in
theorem gX4_put_X4_reduce : GoodIn wsX4_put (va_wsS RX4 124 yX4_reduce wsX4_reduce) := goodIn_app (goodIn_of _ (by decide +kernel)) ggX4_put_X4_reduce
theorem dX4_put_0 : decode cX4_put 0 = .ok (.aload_n 0, 1) := by decide +kernel
theorem dX4_put_1 : decode cX4_put 1 = .ok (.getfield 10, 3) := by decide +kernel
theorem dX4_put_4 : decode cX4_put 4 = .ok (.iload_n 1, 1) := by decide +kernel
theorem dX4_put_5 : decode cX4_put 5 = .ok (.invokevirtual 117, 3) := by decide +kernel
theorem dX4_put_8 : decode cX4_put 8 = .ok (.ifCond .eq 14, 3) := by decide +kernel
theorem dX4_put_11 : decode cX4_put 11 = .ok (.aload_n 0, 1) := by decide +kernel
theorem dX4_put_12 : decode cX4_put 12 = .ok (.getfield 10, 3) := by decide +kernel
theorem dX4_put_15 : decode cX4_put 15 = .ok (.iload_n 2, 1) := by decide +kernel
theorem dX4_put_16 : decode cX4_put 16 = .ok (.invokevirtual 102, 3) := by decide +kernel
theorem dX4_put_19 : decode cX4_put 19 = .ok (.ifCond .ne 5, 3) := by decide +kernel
theorem dX4_put_22 : decode cX4_put 22 = .ok (.iconst (-1), 1) := by decide +kernel
theorem dX4_put_23 : decode cX4_put 23 = .ok (.ireturn, 1) := by decide +kernel
theorem dX4_put_24 : decode cX4_put 24 = .ok (.aload_n 0, 1) := by decide +kernel
theorem dX4_put_25 : decode cX4_put 25 = .ok (.getfield 25, 3) := by decide +kernel
theorem dX4_put_28 : decode cX4_put 28 = .ok (.aload_n 0, 1) := by decide +kernel
theorem dX4_put_29 : decode cX4_put 29 = .ok (.getfield 10, 3) := by decide +kernel
theorem dX4_put_32 : decode cX4_put 32 = .ok (.iload_n 1, 1) := by decide +kernel
theorem dX4_put_33 : decode cX4_put 33 = .ok (.invokevirtual 120, 3) := by decide +kernel
theorem dX4_put_36 : decode cX4_put 36 = .ok (.aload_n 0, 1) := by decide +kernel
theorem dX4_put_37 : decode cX4_put 37 = .ok (.getfield 10, 3) := by decide +kernel
theorem dX4_put_40 : decode cX4_put 40 = .ok (.getfield 106, 3) := by decide +kernel
theorem dX4_put_43 : decode cX4_put 43 = .ok (.iload_n 1, 1) := by decide +kernel
theorem dX4_put_44 : decode cX4_put 44 = .ok (.aaload, 1) := by decide +kernel
theorem dX4_put_45 : decode cX4_put 45 = .ok (.iload_n 2, 1) := by decide +kernel
theorem dX4_put_46 : decode cX4_put 46 = .ok (.iload_n 3, 1) := by decide +kernel
theorem dX4_put_47 : decode cX4_put 47 = .ok (.i2l, 1) := by decide +kernel
theorem dX4_put_48 : decode cX4_put 48 = .ok (.invokestatic 124, 3) := by decide +kernel
theorem dX4_put_51 : decode cX4_put 51 = .ok (.iastore, 1) := by decide +kernel
theorem dX4_put_52 : decode cX4_put 52 = .ok (.aload_n 0, 1) := by decide +kernel
theorem dX4_put_53 : decode cX4_put 53 = .ok (.getfield 10, 3) := by decide +kernel
theorem dX4_put_56 : decode cX4_put 56 = .ok (.getfield 106, 3) := by decide +kernel
theorem dX4_put_59 : decode cX4_put 59 = .ok (.iload_n 1, 1) := by decide +kernel
theorem dX4_put_60 : decode cX4_put 60 = .ok (.aaload, 1) := by decide +kernel
theorem dX4_put_61 : decode cX4_put 61 = .ok (.iload_n 2, 1) := by decide +kernel
theorem dX4_put_62 : decode cX4_put 62 = .ok (.iaload, 1) := by decide +kernel
theorem dX4_put_63 : decode cX4_put 63 = .ok (.ireturn, 1) := by decide +kernel
set_option maxRecDepth 20000 in
theorem ggX4_lay_X1_hasRow : GoodIn wsX4_lay wsX1_hasRow := goodIn_r _ [7, 8, 90, 91, 92, 93] (by decide +kernel) (by decide +kernel)
set_option maxRecDepth 20000 in
theorem gX4_lay_X1_hasRow : GoodIn wsX4_lay (wsV RX4 117 RX1 yX1_hasRow wsX1_hasRow) := goodIn_app (goodIn_of _ (by decide +kernel)) ggX4_lay_X1_hasRow
set_option maxRecDepth 20000 in
theorem ggX4_lay_X4_measureAll : GoodIn wsX4_lay wsX4_measureAll := goodIn_r _ [12, 13, 14, 15, 6, 16, 8, 17, 18, 11, 19, 20, 21, 22, 23, 24, 25, 26, 27, 28, 29, 30, 31, 32, 33, 34, 35, 36, 37, 38, 39, 40, 41, 42, 90, 91, 92, 93] (by decide +kernel) (by decide +kernel)
set_option maxRecDepth 20000 in
theorem gX4_lay_X4_measureAll : GoodIn wsX4_lay (va_wsS RX4 128 yX4_measureAll wsX4_measureAll) := goodIn_app (goodIn_of _ (by decide +kernel)) ggX4_lay_X4_measureAll
set_option maxRecDepth 20000 in
theorem ggX4_lay_X1_countSets : GoodIn wsX4_lay wsX1_countSets := goodIn_r _ [16, 8, 90, 91, 92, 93] (by decide +kernel) (by decide +kernel)
set_option maxRecDepth 20000 in
theorem gX4_lay_X1_countSets : GoodIn wsX4_lay (wsV RX4 132 RX1 yX1_countSets wsX1_countSets) := goodIn_app (goodIn_of _ (by decide +kernel)) ggX4_lay_X1_countSets
set_option maxRecDepth 20000 in
theorem ggX4_lay_X4_reduce : GoodIn wsX4_lay wsX4_reduce := goodIn_r _ [45, 46] (by decide +kernel) (by decide +kernel)
set_option maxRecDepth 20000 in
theorem gX4_lay_X4_reduce : GoodIn wsX4_lay (va_wsS RX4 124 yX4_reduce wsX4_reduce) := goodIn_app (goodIn_of _ (by decide +kernel)) ggX4_lay_X4_reduce
set_option maxRecDepth 20000 in
theorem ggX4_lay_X4_settle : GoodIn wsX4_lay wsX4_settle := goodIn_r _ [50, 51, 1, 20, 52, 53, 54, 55, 56, 57, 58, 59, 60, 61, 62, 63, 64, 65, 66, 67, 68, 69, 70, 71, 72, 73, 74, 75, 76, 13, 14, 15, 6, 16, 8, 77, 78, 79, 80, 81, 82, 83, 84, 85, 86, 87, 88, 89, 90, 91, 92, 93, 94, 95, 96, 97, 98, 99, 100] (by decide +kernel) (by decide +kernel)
set_option maxRecDepth 20000 in
theorem gX4_lay_X4_settle : GoodIn wsX4_lay (wsV RX4 135 RX4 yX4_settle wsX4_settle) := goodIn_app (goodIn_of _ (by decide +kernel)) ggX4_lay_X4_settle
theorem dX4_lay_0 : decode cX4_lay 0 = .ok (.aload_n 0, 1) := by decide +kernel
theorem dX4_lay_1 : decode cX4_lay 1 = .ok (.getfield 10, 3) := by decide +kernel
theorem dX4_lay_4 : decode cX4_lay 4 = .ok (.iload_n 1, 1) := by decide +kernel
theorem dX4_lay_5 : decode cX4_lay 5 = .ok (.invokevirtual 117, 3) := by decide +kernel
theorem dX4_lay_8 : decode cX4_lay 8 = .ok (.ifCond .eq 13, 3) := by decide +kernel
theorem dX4_lay_11 : decode cX4_lay 11 = .ok (.iload_n 2, 1) := by decide +kernel
theorem dX4_lay_12 : decode cX4_lay 12 = .ok (.ifCond .lt 9, 3) := by decide +kernel
theorem dX4_lay_15 : decode cX4_lay 15 = .ok (.iload_n 2, 1) := by decide +kernel
theorem dX4_lay_16 : decode cX4_lay 16 = .ok (.bipush 7, 2) := by decide +kernel
theorem dX4_lay_18 : decode cX4_lay 18 = .ok (.if_icmp .le 5, 3) := by decide +kernel
theorem dX4_lay_21 : decode cX4_lay 21 = .ok (.iconst (-1), 1) := by decide +kernel
theorem dX4_lay_22 : decode cX4_lay 22 = .ok (.ireturn, 1) := by decide +kernel
theorem dX4_lay_23 : decode cX4_lay 23 = .ok (.aload_n 0, 1) := by decide +kernel
theorem dX4_lay_24 : decode cX4_lay 24 = .ok (.getfield 10, 3) := by decide +kernel
theorem dX4_lay_27 : decode cX4_lay 27 = .ok (.iload_n 2, 1) := by decide +kernel
theorem dX4_lay_28 : decode cX4_lay 28 = .ok (.aload_n 0, 1) := by decide +kernel
theorem dX4_lay_29 : decode cX4_lay 29 = .ok (.getfield 43, 3) := by decide +kernel
theorem dX4_lay_32 : decode cX4_lay 32 = .ok (.invokestatic 128, 3) := by decide +kernel
theorem dX4_lay_35 : decode cX4_lay 35 = .ok (.iconst 0, 1) := by decide +kernel
theorem dX4_lay_36 : decode cX4_lay 36 = .ok (.istore_n 3, 1) := by decide +kernel
theorem dX4_lay_37 : decode cX4_lay 37 = .ok (.iload_n 3, 1) := by decide +kernel
theorem dX4_lay_38 : decode cX4_lay 38 = .ok (.aload_n 0, 1) := by decide +kernel
theorem dX4_lay_39 : decode cX4_lay 39 = .ok (.getfield 10, 3) := by decide +kernel
theorem dX4_lay_42 : decode cX4_lay 42 = .ok (.invokevirtual 132, 3) := by decide +kernel
theorem dX4_lay_45 : decode cX4_lay 45 = .ok (.if_icmp .ge 25, 3) := by decide +kernel
theorem dX4_lay_48 : decode cX4_lay 48 = .ok (.aload_n 0, 1) := by decide +kernel
theorem dX4_lay_49 : decode cX4_lay 49 = .ok (.getfield 43, 3) := by decide +kernel
theorem dX4_lay_52 : decode cX4_lay 52 = .ok (.iload_n 3, 1) := by decide +kernel
theorem dX4_lay_53 : decode cX4_lay 53 = .ok (.aload_n 0, 1) := by decide +kernel
theorem dX4_lay_54 : decode cX4_lay 54 = .ok (.getfield 43, 3) := by decide +kernel
theorem dX4_lay_57 : decode cX4_lay 57 = .ok (.iload_n 3, 1) := by decide +kernel
theorem dX4_lay_58 : decode cX4_lay 58 = .ok (.iaload, 1) := by decide +kernel
