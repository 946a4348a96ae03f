theorem dX5_roots_148 : decode cX5_roots 148 = .ok (.ireturn, 1) := by decide +kernel
theorem dX5_isTold_0 : decode cX5_isTold 0 = .ok (.aload_n 0, 1) := by decide +kernel
theorem dX5_isTold_1 : decode cX5_isTold 1 = .ok (.getfield 56, 3) := by decide +kernel
theorem dX5_isTold_4 : decode cX5_isTold 4 = .ok (.iconst 1, 1) := by decide +kernel
theorem dX5_isTold_5 : decode cX5_isTold 5 = .ok (.iload_n 1, 1) := by decide +kernel
theorem dX5_isTold_6 : decode cX5_isTold 6 = .ok (.iadd, 1) := by decide +kernel
theorem dX5_isTold_7 : decode cX5_isTold 7 = .ok (.iaload, 1) := by decide +kernel
theorem dX5_isTold_8 : decode cX5_isTold 8 = .ok (.ifCond .le 7, 3) := by decide +kernel
theorem dX5_isTold_11 : decode cX5_isTold 11 = .ok (.iconst 1, 1) := by decide +kernel
theorem dX5_isTold_12 : decode cX5_isTold 12 = .ok (.goto 4, 3) := by decide +kernel
theorem dX5_isTold_15 : decode cX5_isTold 15 = .ok (.iconst 0, 1) := by decide +kernel
theorem dX5_isTold_16 : decode cX5_isTold 16 = .ok (.ireturn, 1) := by decide +kernel
theorem dX5_covers_0 : decode cX5_covers 0 = .ok (.aload_n 0, 1) := by decide +kernel
theorem dX5_covers_1 : decode cX5_covers 1 = .ok (.iconst 0, 1) := by decide +kernel
theorem dX5_covers_2 : decode cX5_covers 2 = .ok (.putfield 1, 3) := by decide +kernel
theorem dX5_covers_5 : decode cX5_covers 5 = .ok (.aload_n 0, 1) := by decide +kernel
theorem dX5_covers_6 : decode cX5_covers 6 = .ok (.iload_n 1, 1) := by decide +kernel
theorem dX5_covers_7 : decode cX5_covers 7 = .ok (.invokevirtual 160, 3) := by decide +kernel
theorem dX5_covers_10 : decode cX5_covers 10 = .ok (.ifCond .eq 13, 3) := by decide +kernel
theorem dX5_covers_13 : decode cX5_covers 13 = .ok (.iload_n 2, 1) := by decide +kernel
theorem dX5_covers_14 : decode cX5_covers 14 = .ok (.iconst 0, 1) := by decide +kernel
theorem dX5_covers_15 : decode cX5_covers 15 = .ok (.bipush 8, 2) := by decide +kernel
theorem dX5_covers_17 : decode cX5_covers 17 = .ok (.invokestatic 99, 3) := by decide +kernel
theorem dX5_covers_20 : decode cX5_covers 20 = .ok (.ifCond .ne 5, 3) := by decide +kernel
theorem dX5_covers_23 : decode cX5_covers 23 = .ok (.iconst (-1), 1) := by decide +kernel
theorem dX5_covers_24 : decode cX5_covers 24 = .ok (.ireturn, 1) := by decide +kernel
theorem dX5_covers_25 : decode cX5_covers 25 = .ok (.aload_n 0, 1) := by decide +kernel
theorem dX5_covers_26 : decode cX5_covers 26 = .ok (.invokevirtual 209, 3) := by decide +kernel
theorem dX5_covers_29 : decode cX5_covers 29 = .ok (.iconst 0, 1) := by decide +kernel
theorem dX5_covers_30 : decode cX5_covers 30 = .ok (.istore_n 3, 1) := by decide +kernel
theorem dX5_covers_31 : decode cX5_covers 31 = .ok (.iload_n 3, 1) := by decide +kernel
theorem dX5_covers_32 : decode cX5_covers 32 = .ok (.iload_n 2, 1) := by decide +kernel
theorem dX5_covers_33 : decode cX5_covers 33 = .ok (.if_icmp .ge 144, 3) := by decide +kernel
theorem dX5_covers_36 : decode cX5_covers 36 = .ok (.iconst 0, 1) := by decide +kernel
theorem dX5_covers_37 : decode cX5_covers 37 = .ok (.istore 4, 2) := by decide +kernel
theorem dX5_covers_39 : decode cX5_covers 39 = .ok (.iload 4, 2) := by decide +kernel
theorem dX5_covers_41 : decode cX5_covers 41 = .ok (.aload_n 0, 1) := by decide +kernel
theorem dX5_covers_42 : decode cX5_covers 42 = .ok (.invokevirtual 151, 3) := by decide +kernel
theorem dX5_covers_45 : decode cX5_covers 45 = .ok (.if_icmp .gt 31, 3) := by decide +kernel
theorem dX5_covers_48 : decode cX5_covers 48 = .ok (.aload_n 0, 1) := by decide +kernel
theorem dX5_covers_49 : decode cX5_covers 49 = .ok (.getfield 75, 3) := by decide +kernel
theorem dX5_covers_52 : decode cX5_covers 52 = .ok (.iload 4, 2) := by decide +kernel
theorem dX5_covers_54 : decode cX5_covers 54 = .ok (.aload_n 0, 1) := by decide +kernel
theorem dX5_covers_55 : decode cX5_covers 55 = .ok (.getfield 72, 3) := by decide +kernel
theorem dX5_covers_58 : decode cX5_covers 58 = .ok (.iload 4, 2) := by decide +kernel
theorem dX5_covers_60 : decode cX5_covers 60 = .ok (.iaload, 1) := by decide +kernel
theorem dX5_covers_61 : decode cX5_covers 61 = .ok (.iastore, 1) := by decide +kernel
theorem dX5_covers_62 : decode cX5_covers 62 = .ok (.aload_n 0, 1) := by decide +kernel
theorem dX5_covers_63 : decode cX5_covers 63 = .ok (.getfield 72, 3) := by decide +kernel
theorem dX5_covers_66 : decode cX5_covers 66 = .ok (.iload 4, 2) := by decide +kernel
theorem dX5_covers_68 : decode cX5_covers 68 = .ok (.iconst 0, 1) := by decide +kernel
theorem dX5_covers_69 : decode cX5_covers 69 = .ok (.iastore, 1) := by decide +kernel
theorem dX5_covers_70 : decode cX5_covers 70 = .ok (.iinc 4 1, 3) := by decide +kernel
theorem dX5_covers_73 : decode cX5_covers 73 = .ok (.goto (-34), 3) := by decide +kernel
theorem dX5_covers_76 : decode cX5_covers 76 = .ok (.iconst 0, 1) := by decide +kernel
theorem dX5_covers_77 : decode cX5_covers 77 = .ok (.istore 4, 2) := by decide +kernel
theorem dX5_covers_79 : decode cX5_covers 79 = .ok (.iload 4, 2) := by decide +kernel
theorem dX5_covers_81 : decode cX5_covers 81 = .ok (.aload_n 0, 1) := by decide +kernel
theorem dX5_covers_82 : decode cX5_covers 82 = .ok (.invokevirtual 151, 3) := by decide +kernel
theorem dX5_covers_85 : decode cX5_covers 85 = .ok (.if_icmp .gt 86, 3) := by decide +kernel
theorem dX5_covers_88 : decode cX5_covers 88 = .ok (.iconst 0, 1) := by decide +kernel
theorem dX5_covers_89 : decode cX5_covers 89 = .ok (.istore 5, 2) := by decide +kernel
theorem dX5_covers_91 : decode cX5_covers 91 = .ok (.iload 5, 2) := by decide +kernel
theorem dX5_covers_93 : decode cX5_covers 93 = .ok (.aload_n 0, 1) := by decide +kernel
theorem dX5_covers_94 : decode cX5_covers 94 = .ok (.invokevirtual 151, 3) := by decide +kernel
theorem dX5_covers_97 : decode cX5_covers 97 = .ok (.if_icmp .gt 68, 3) := by decide +kernel
theorem dX5_covers_100 : decode cX5_covers 100 = .ok (.aload_n 0, 1) := by decide +kernel
theorem dX5_covers_101 : decode cX5_covers 101 = .ok (.getfield 75, 3) := by decide +kernel
theorem dX5_covers_104 : decode cX5_covers 104 = .ok (.iload 4, 2) := by decide +kernel
theorem dX5_covers_106 : decode cX5_covers 106 = .ok (.iaload, 1) := by decide +kernel
theorem dX5_covers_107 : decode cX5_covers 107 = .ok (.ifCond .le 52, 3) := by decide +kernel
theorem dX5_covers_110 : decode cX5_covers 110 = .ok (.aload_n 0, 1) := by decide +kernel
theorem dX5_covers_111 : decode cX5_covers 111 = .ok (.iload 5, 2) := by decide +kernel
theorem dX5_covers_113 : decode cX5_covers 113 = .ok (.invokevirtual 220, 3) := by decide +kernel
theorem dX5_covers_116 : decode cX5_covers 116 = .ok (.ifCond .eq 43, 3) := by decide +kernel
theorem dX5_covers_119 : decode cX5_covers 119 = .ok (.iload 5, 2) := by decide +kernel
theorem dX5_covers_121 : decode cX5_covers 121 = .ok (.iload_n 1, 1) := by decide +kernel
theorem dX5_covers_122 : decode cX5_covers 122 = .ok (.iconst (-1), 1) := by decide +kernel
theorem dX5_covers_123 : decode cX5_covers 123 = .ok (.ixor, 1) := by decide +kernel
theorem dX5_covers_124 : decode cX5_covers 124 = .ok (.iand, 1) := by decide +kernel
theorem dX5_covers_125 : decode cX5_covers 125 = .ok (.ifCond .ne 34, 3) := by decide +kernel
theorem dX5_covers_128 : decode cX5_covers 128 = .ok (.aload_n 0, 1) := by decide +kernel
theorem dX5_covers_129 : decode cX5_covers 129 = .ok (.getfield 72, 3) := by decide +kernel
theorem dX5_covers_132 : decode cX5_covers 132 = .ok (.iload 4, 2) := by decide +kernel
theorem dX5_covers_134 : decode cX5_covers 134 = .ok (.iload 5, 2) := by decide +kernel
theorem dX5_covers_136 : decode cX5_covers 136 = .ok (.ior, 1) := by decide +kernel
theorem dX5_covers_137 : decode cX5_covers 137 = .ok (.aload_n 0, 1) := by decide +kernel
theorem dX5_covers_138 : decode cX5_covers 138 = .ok (.getfield 72, 3) := by decide +kernel
theorem dX5_covers_141 : decode cX5_covers 141 = .ok (.iload 4, 2) := by decide +kernel
theorem dX5_covers_143 : decode cX5_covers 143 = .ok (.iload 5, 2) := by decide +kernel
theorem dX5_covers_145 : decode cX5_covers 145 = .ok (.ior, 1) := by decide +kernel
theorem dX5_covers_146 : decode cX5_covers 146 = .ok (.iaload, 1) := by decide +kernel
theorem dX5_covers_147 : decode cX5_covers 147 = .ok (.aload_n 0, 1) := by decide +kernel
theorem dX5_covers_148 : decode cX5_covers 148 = .ok (.getfield 75, 3) := by decide +kernel
theorem dX5_covers_151 : decode cX5_covers 151 = .ok (.iload 4, 2) := by decide +kernel
theorem dX5_covers_153 : decode cX5_covers 153 = .ok (.iaload, 1) := by decide +kernel
theorem dX5_covers_154 : decode cX5_covers 154 = .ok (.iadd, 1) := by decide +kernel
theorem dX5_covers_155 : decode cX5_covers 155 = .ok (.ldc 223, 2) := by decide +kernel
theorem dX5_covers_157 : decode cX5_covers 157 = .ok (.irem, 1) := by decide +kernel
theorem dX5_covers_158 : decode cX5_covers 158 = .ok (.iastore, 1) := by decide +kernel
theorem dX5_covers_159 : decode cX5_covers 159 = .ok (.iinc 5 1, 3) := by decide +kernel
theorem dX5_covers_162 : decode cX5_covers 162 = .ok (.goto (-71), 3) := by decide +kernel
theorem dX5_covers_165 : decode cX5_covers 165 = .ok (.iinc 4 1, 3) := by decide +kernel
theorem dX5_covers_168 : decode cX5_covers 168 = .ok (.goto (-89), 3) := by decide +kernel
theorem dX5_covers_171 : decode cX5_covers 171 = .ok (.iinc 3 1, 3) := by decide +kernel
theorem dX5_covers_174 : decode cX5_covers 174 = .ok (.goto (-143), 3) := by decide +kernel
theorem dX5_covers_177 : decode cX5_covers 177 = .ok (.aload_n 0, 1) := by decide +kernel
theorem dX5_covers_178 : decode cX5_covers 178 = .ok (.getfield 72, 3) := by decide +kernel
theorem dX5_covers_181 : decode cX5_covers 181 = .ok (.iload_n 1, 1) := by decide +kernel
theorem dX5_covers_182 : decode cX5_covers 182 = .ok (.iaload, 1) := by decide +kernel
theorem dX5_covers_183 : decode cX5_covers 183 = .ok (.ireturn, 1) := by decide +kernel
theorem dX5_laysWays_0 : decode cX5_laysWays 0 = .ok (.iconst 0, 1) := by decide +kernel
theorem dX5_laysWays_1 : decode cX5_laysWays 1 = .ok (.istore_n 1, 1) := by decide +kernel
theorem dX5_laysWays_2 : decode cX5_laysWays 2 = .ok (.iload_n 1, 1) := by decide +kernel
theorem dX5_laysWays_3 : decode cX5_laysWays 3 = .ok (.aload_n 0, 1) := by decide +kernel
theorem dX5_laysWays_4 : decode cX5_laysWays 4 = .ok (.invokevirtual 151, 3) := by decide +kernel
theorem dX5_laysWays_7 : decode cX5_laysWays 7 = .ok (.if_icmp .gt 127, 3) := by decide +kernel
theorem dX5_laysWays_10 : decode cX5_laysWays 10 = .ok (.iconst 0, 1) := by decide +kernel
theorem dX5_laysWays_11 : decode cX5_laysWays 11 = .ok (.istore_n 2, 1) := by decide +kernel
theorem dX5_laysWays_12 : decode cX5_laysWays 12 = .ok (.iload_n 2, 1) := by decide +kernel
theorem dX5_laysWays_13 : decode cX5_laysWays 13 = .ok (.bipush 8, 2) := by decide +kernel
theorem dX5_laysWays_15 : decode cX5_laysWays 15 = .ok (.if_icmp .gt 33, 3) := by decide +kernel
theorem dX5_laysWays_18 : decode cX5_laysWays 18 = .ok (.aload_n 0, 1) := by decide +kernel
theorem dX5_laysWays_19 : decode cX5_laysWays 19 = .ok (.getfield 78, 3) := by decide +kernel
theorem dX5_laysWays_22 : decode cX5_laysWays 22 = .ok (.bipush 9, 2) := by decide +kernel
theorem dX5_laysWays_24 : decode cX5_laysWays 24 = .ok (.iload_n 1, 1) := by decide +kernel
theorem dX5_laysWays_25 : decode cX5_laysWays 25 = .ok (.imul, 1) := by decide +kernel
theorem dX5_laysWays_26 : decode cX5_laysWays 26 = .ok (.iload_n 2, 1) := by decide +kernel
theorem dX5_laysWays_27 : decode cX5_laysWays 27 = .ok (.iadd, 1) := by decide +kernel
theorem dX5_laysWays_28 : decode cX5_laysWays 28 = .ok (.iload_n 1, 1) := by decide +kernel
theorem dX5_laysWays_29 : decode cX5_laysWays 29 = .ok (.ifCond .ne 11, 3) := by decide +kernel
theorem dX5_laysWays_32 : decode cX5_laysWays 32 = .ok (.iload_n 2, 1) := by decide +kernel
theorem dX5_laysWays_33 : decode cX5_laysWays 33 = .ok (.ifCond .ne 7, 3) := by decide +kernel
theorem dX5_laysWays_36 : decode cX5_laysWays 36 = .ok (.iconst 1, 1) := by decide +kernel
theorem dX5_laysWays_37 : decode cX5_laysWays 37 = .ok (.goto 4, 3) := by decide +kernel
theorem dX5_laysWays_40 : decode cX5_laysWays 40 = .ok (.iconst 0, 1) := by decide +kernel
theorem dX5_laysWays_41 : decode cX5_laysWays 41 = .ok (.iastore, 1) := by decide +kernel
theorem dX5_laysWays_42 : decode cX5_laysWays 42 = .ok (.iinc 2 1, 3) := by decide +kernel
theorem dX5_laysWays_45 : decode cX5_laysWays 45 = .ok (.goto (-33), 3) := by decide +kernel
theorem dX5_laysWays_48 : decode cX5_laysWays 48 = .ok (.iload_n 1, 1) := by decide +kernel
theorem dX5_laysWays_49 : decode cX5_laysWays 49 = .ok (.istore_n 2, 1) := by decide +kernel
theorem dX5_laysWays_50 : decode cX5_laysWays 50 = .ok (.iload_n 2, 1) := by decide +kernel
theorem dX5_laysWays_51 : decode cX5_laysWays 51 = .ok (.ifCond .le 77, 3) := by decide +kernel
theorem dX5_laysWays_54 : decode cX5_laysWays 54 = .ok (.iload_n 2, 1) := by decide +kernel
theorem dX5_laysWays_55 : decode cX5_laysWays 55 = .ok (.iload_n 1, 1) := by decide +kernel
theorem dX5_laysWays_56 : decode cX5_laysWays 56 = .ok (.iand, 1) := by decide +kernel
theorem dX5_laysWays_57 : decode cX5_laysWays 57 = .ok (.iload_n 1, 1) := by decide +kernel
theorem dX5_laysWays_58 : decode cX5_laysWays 58 = .ok (.ineg, 1) := by decide +kernel
theorem dX5_laysWays_59 : decode cX5_laysWays 59 = .ok (.iand, 1) := by decide +kernel
theorem dX5_laysWays_60 : decode cX5_laysWays 60 = .ok (.ifCond .eq 59, 3) := by decide +kernel
theorem dX5_laysWays_63 : decode cX5_laysWays 63 = .ok (.aload_n 0, 1) := by decide +kernel
theorem dX5_laysWays_64 : decode cX5_laysWays 64 = .ok (.iload_n 2, 1) := by decide +kernel
theorem dX5_laysWays_65 : decode cX5_laysWays 65 = .ok (.invokevirtual 220, 3) := by decide +kernel
theorem dX5_laysWays_68 : decode cX5_laysWays 68 = .ok (.ifCond .ne 6, 3) := by decide +kernel
theorem dX5_laysWays_71 : decode cX5_laysWays 71 = .ok (.goto 48, 3) := by decide +kernel
theorem dX5_laysWays_74 : decode cX5_laysWays 74 = .ok (.iconst 1, 1) := by decide +kernel
theorem dX5_laysWays_75 : decode cX5_laysWays 75 = .ok (.istore_n 3, 1) := by decide +kernel
theorem dX5_laysWays_76 : decode cX5_laysWays 76 = .ok (.iload_n 3, 1) := by decide +kernel
theorem dX5_laysWays_77 : decode cX5_laysWays 77 = .ok (.bipush 8, 2) := by decide +kernel
theorem dX5_laysWays_79 : decode cX5_laysWays 79 = .ok (.if_icmp .gt 40, 3) := by decide +kernel
theorem dX5_laysWays_82 : decode cX5_laysWays 82 = .ok (.aload_n 0, 1) := by decide +kernel
theorem dX5_laysWays_83 : decode cX5_laysWays 83 = .ok (.getfield 78, 3) := by decide +kernel
theorem dX5_laysWays_86 : decode cX5_laysWays 86 = .ok (.bipush 9, 2) := by decide +kernel
theorem dX5_laysWays_88 : decode cX5_laysWays 88 = .ok (.iload_n 1, 1) := by decide +kernel
theorem dX5_laysWays_89 : decode cX5_laysWays 89 = .ok (.imul, 1) := by decide +kernel
theorem dX5_laysWays_90 : decode cX5_laysWays 90 = .ok (.iload_n 3, 1) := by decide +kernel
theorem dX5_laysWays_91 : decode cX5_laysWays 91 = .ok (.iadd, 1) := by decide +kernel
theorem dX5_laysWays_92 : decode cX5_laysWays 92 = .ok (.dup2, 1) := by decide +kernel
theorem dX5_laysWays_93 : decode cX5_laysWays 93 = .ok (.iaload, 1) := by decide +kernel
theorem dX5_laysWays_94 : decode cX5_laysWays 94 = .ok (.aload_n 0, 1) := by decide +kernel
theorem dX5_laysWays_95 : decode cX5_laysWays 95 = .ok (.getfield 78, 3) := by decide +kernel
theorem dX5_laysWays_98 : decode cX5_laysWays 98 = .ok (.bipush 9, 2) := by decide +kernel
theorem dX5_laysWays_100 : decode cX5_laysWays 100 = .ok (.iload_n 1, 1) := by decide +kernel
theorem dX5_laysWays_101 : decode cX5_laysWays 101 = .ok (.iload_n 2, 1) := by decide +kernel
theorem dX5_laysWays_102 : decode cX5_laysWays 102 = .ok (.iconst (-1), 1) := by decide +kernel
theorem dX5_laysWays_103 : decode cX5_laysWays 103 = .ok (.ixor, 1) := by decide +kernel
theorem dX5_laysWays_104 : decode cX5_laysWays 104 = .ok (.iand, 1) := by decide +kernel
theorem dX5_laysWays_105 : decode cX5_laysWays 105 = .ok (.imul, 1) := by decide +kernel
theorem dX5_laysWays_106 : decode cX5_laysWays 106 = .ok (.iload_n 3, 1) := by decide +kernel
theorem dX5_laysWays_107 : decode cX5_laysWays 107 = .ok (.iadd, 1) := by decide +kernel
theorem dX5_laysWays_108 : decode cX5_laysWays 108 = .ok (.iconst 1, 1) := by decide +kernel
theorem dX5_laysWays_109 : decode cX5_laysWays 109 = .ok (.isub, 1) := by decide +kernel
theorem dX5_laysWays_110 : decode cX5_laysWays 110 = .ok (.iaload, 1) := by decide +kernel
theorem dX5_laysWays_111 : decode cX5_laysWays 111 = .ok (.iadd, 1) := by decide +kernel
theorem dX5_laysWays_112 : decode cX5_laysWays 112 = .ok (.iastore, 1) := by decide +kernel
theorem dX5_laysWays_113 : decode cX5_laysWays 113 = .ok (.iinc 3 1, 3) := by decide +kernel
theorem dX5_laysWays_116 : decode cX5_laysWays 116 = .ok (.goto (-40), 3) := by decide +kernel
theorem dX5_laysWays_119 : decode cX5_laysWays 119 = .ok (.iload_n 2, 1) := by decide +kernel
theorem dX5_laysWays_120 : decode cX5_laysWays 120 = .ok (.iconst 1, 1) := by decide +kernel
theorem dX5_laysWays_121 : decode cX5_laysWays 121 = .ok (.isub, 1) := by decide +kernel
theorem dX5_laysWays_122 : decode cX5_laysWays 122 = .ok (.iload_n 1, 1) := by decide +kernel
theorem dX5_laysWays_123 : decode cX5_laysWays 123 = .ok (.iand, 1) := by decide +kernel
theorem dX5_laysWays_124 : decode cX5_laysWays 124 = .ok (.istore_n 2, 1) := by decide +kernel
theorem dX5_laysWays_125 : decode cX5_laysWays 125 = .ok (.goto (-75), 3) := by decide +kernel
theorem dX5_laysWays_128 : decode cX5_laysWays 128 = .ok (.iinc 1 1, 3) := by decide +kernel
theorem dX5_laysWays_131 : decode cX5_laysWays 131 = .ok (.goto (-129), 3) := by decide +kernel
theorem dX5_laysWays_134 : decode cX5_laysWays 134 = .ok (.return_, 1) := by decide +kernel
theorem dX5_partings_0 : decode cX5_partings 0 = .ok (.aload_n 0, 1) := by decide +kernel
theorem dX5_partings_1 : decode cX5_partings 1 = .ok (.iconst 0, 1) := by decide +kernel
theorem dX5_partings_2 : decode cX5_partings 2 = .ok (.putfield 1, 3) := by decide +kernel
theorem dX5_partings_5 : decode cX5_partings 5 = .ok (.aload_n 0, 1) := by decide +kernel
theorem dX5_partings_6 : decode cX5_partings 6 = .ok (.iload_n 1, 1) := by decide +kernel
theorem dX5_partings_7 : decode cX5_partings 7 = .ok (.invokevirtual 160, 3) := by decide +kernel
theorem dX5_partings_10 : decode cX5_partings 10 = .ok (.ifCond .eq 13, 3) := by decide +kernel
theorem dX5_partings_13 : decode cX5_partings 13 = .ok (.iload_n 2, 1) := by decide +kernel
theorem dX5_partings_14 : decode cX5_partings 14 = .ok (.iconst 0, 1) := by decide +kernel
theorem dX5_partings_15 : decode cX5_partings 15 = .ok (.bipush 8, 2) := by decide +kernel
theorem dX5_partings_17 : decode cX5_partings 17 = .ok (.invokestatic 99, 3) := by decide +kernel
theorem dX5_partings_20 : decode cX5_partings 20 = .ok (.ifCond .ne 5, 3) := by decide +kernel
theorem dX5_partings_23 : decode cX5_partings 23 = .ok (.iconst (-1), 1) := by decide +kernel
theorem dX5_partings_24 : decode cX5_partings 24 = .ok (.ireturn, 1) := by decide +kernel
theorem dX5_partings_25 : decode cX5_partings 25 = .ok (.aload_n 0, 1) := by decide +kernel
theorem dX5_partings_26 : decode cX5_partings 26 = .ok (.invokevirtual 224, 3) := by decide +kernel
theorem dX5_partings_29 : decode cX5_partings 29 = .ok (.aload_n 0, 1) := by decide +kernel
theorem dX5_partings_30 : decode cX5_partings 30 = .ok (.getfield 78, 3) := by decide +kernel
theorem dX5_partings_33 : decode cX5_partings 33 = .ok (.bipush 9, 2) := by decide +kernel
theorem dX5_partings_35 : decode cX5_partings 35 = .ok (.iload_n 1, 1) := by decide +kernel
theorem dX5_partings_36 : decode cX5_partings 36 = .ok (.imul, 1) := by decide +kernel
theorem dX5_partings_37 : decode cX5_partings 37 = .ok (.iload_n 2, 1) := by decide +kernel
theorem dX5_partings_38 : decode cX5_partings 38 = .ok (.iadd, 1) := by decide +kernel
theorem dX5_partings_39 : decode cX5_partings 39 = .ok (.iaload, 1) := by decide +kernel
theorem dX5_partings_40 : decode cX5_partings 40 = .ok (.ireturn, 1) := by decide +kernel
theorem dX5_laysPrices_0 : decode cX5_laysPrices 0 = .ok (.aload_n 0, 1) := by decide +kernel
theorem dX5_laysPrices_1 : decode cX5_laysPrices 1 = .ok (.getfield 81, 3) := by decide +kernel
theorem dX5_laysPrices_4 : decode cX5_laysPrices 4 = .ok (.iconst 0, 1) := by decide +kernel
theorem dX5_laysPrices_5 : decode cX5_laysPrices 5 = .ok (.iconst 0, 1) := by decide +kernel
theorem dX5_laysPrices_6 : decode cX5_laysPrices 6 = .ok (.iastore, 1) := by decide +kernel
theorem dX5_laysPrices_7 : decode cX5_laysPrices 7 = .ok (.iconst 1, 1) := by decide +kernel
theorem dX5_laysPrices_8 : decode cX5_laysPrices 8 = .ok (.istore_n 1, 1) := by decide +kernel
theorem dX5_laysPrices_9 : decode cX5_laysPrices 9 = .ok (.iload_n 1, 1) := by decide +kernel
theorem dX5_laysPrices_10 : decode cX5_laysPrices 10 = .ok (.aload_n 0, 1) := by decide +kernel
theorem dX5_laysPrices_11 : decode cX5_laysPrices 11 = .ok (.invokevirtual 151, 3) := by decide +kernel
theorem dX5_laysPrices_14 : decode cX5_laysPrices 14 = .ok (.if_icmp .gt 112, 3) := by decide +kernel
theorem dX5_laysPrices_17 : decode cX5_laysPrices 17 = .ok (.aload_n 0, 1) := by decide +kernel
theorem dX5_laysPrices_18 : decode cX5_laysPrices 18 = .ok (.getfield 81, 3) := by decide +kernel
theorem dX5_laysPrices_21 : decode cX5_laysPrices 21 = .ok (.iload_n 1, 1) := by decide +kernel
theorem dX5_laysPrices_22 : decode cX5_laysPrices 22 = .ok (.iconst (-1), 1) := by decide +kernel
theorem dX5_laysPrices_23 : decode cX5_laysPrices 23 = .ok (.iastore, 1) := by decide +kernel
theorem dX5_laysPrices_24 : decode cX5_laysPrices 24 = .ok (.iload_n 1, 1) := by decide +kernel
theorem dX5_laysPrices_25 : decode cX5_laysPrices 25 = .ok (.istore_n 2, 1) := by decide +kernel
theorem dX5_laysPrices_26 : decode cX5_laysPrices 26 = .ok (.iload_n 2, 1) := by decide +kernel
theorem dX5_laysPrices_27 : decode cX5_laysPrices 27 = .ok (.ifCond .le 93, 3) := by decide +kernel
theorem dX5_laysPrices_30 : decode cX5_laysPrices 30 = .ok (.iload_n 2, 1) := by decide +kernel
theorem dX5_laysPrices_31 : decode cX5_laysPrices 31 = .ok (.iload_n 1, 1) := by decide +kernel
theorem dX5_laysPrices_32 : decode cX5_laysPrices 32 = .ok (.iand, 1) := by decide +kernel
theorem dX5_laysPrices_33 : decode cX5_laysPrices 33 = .ok (.iload_n 1, 1) := by decide +kernel
theorem dX5_laysPrices_34 : decode cX5_laysPrices 34 = .ok (.ineg, 1) := by decide +kernel
theorem dX5_laysPrices_35 : decode cX5_laysPrices 35 = .ok (.iand, 1) := by decide +kernel
theorem dX5_laysPrices_36 : decode cX5_laysPrices 36 = .ok (.ifCond .eq 75, 3) := by decide +kernel
theorem dX5_laysPrices_39 : decode cX5_laysPrices 39 = .ok (.aload_n 0, 1) := by decide +kernel
theorem dX5_laysPrices_40 : decode cX5_laysPrices 40 = .ok (.iload_n 2, 1) := by decide +kernel
theorem dX5_laysPrices_41 : decode cX5_laysPrices 41 = .ok (.invokevirtual 220, 3) := by decide +kernel
theorem dX5_laysPrices_44 : decode cX5_laysPrices 44 = .ok (.ifCond .eq 67, 3) := by decide +kernel
theorem dX5_laysPrices_47 : decode cX5_laysPrices 47 = .ok (.aload_n 0, 1) := by decide +kernel
theorem dX5_laysPrices_48 : decode cX5_laysPrices 48 = .ok (.getfield 81, 3) := by decide +kernel
theorem dX5_laysPrices_51 : decode cX5_laysPrices 51 = .ok (.iload_n 1, 1) := by decide +kernel
theorem dX5_laysPrices_52 : decode cX5_laysPrices 52 = .ok (.iload_n 2, 1) := by decide +kernel
theorem dX5_laysPrices_53 : decode cX5_laysPrices 53 = .ok (.iconst (-1), 1) := by decide +kernel
theorem dX5_laysPrices_54 : decode cX5_laysPrices 54 = .ok (.ixor, 1) := by decide +kernel
theorem dX5_laysPrices_55 : decode cX5_laysPrices 55 = .ok (.iand, 1) := by decide +kernel
theorem dX5_laysPrices_56 : decode cX5_laysPrices 56 = .ok (.iaload, 1) := by decide +kernel
theorem dX5_laysPrices_57 : decode cX5_laysPrices 57 = .ok (.iconst (-1), 1) := by decide +kernel
theorem dX5_laysPrices_58 : decode cX5_laysPrices 58 = .ok (.if_icmp .ne 6, 3) := by decide +kernel
theorem dX5_laysPrices_61 : decode cX5_laysPrices 61 = .ok (.goto 50, 3) := by decide +kernel
theorem dX5_laysPrices_64 : decode cX5_laysPrices 64 = .ok (.aload_n 0, 1) := by decide +kernel
theorem dX5_laysPrices_65 : decode cX5_laysPrices 65 = .ok (.getfield 56, 3) := by decide +kernel
theorem dX5_laysPrices_68 : decode cX5_laysPrices 68 = .ok (.iconst 1, 1) := by decide +kernel
theorem dX5_laysPrices_69 : decode cX5_laysPrices 69 = .ok (.iload_n 2, 1) := by decide +kernel
theorem dX5_laysPrices_70 : decode cX5_laysPrices 70 = .ok (.iadd, 1) := by decide +kernel
theorem dX5_laysPrices_71 : decode cX5_laysPrices 71 = .ok (.iaload, 1) := by decide +kernel
theorem dX5_laysPrices_72 : decode cX5_laysPrices 72 = .ok (.aload_n 0, 1) := by decide +kernel
theorem dX5_laysPrices_73 : decode cX5_laysPrices 73 = .ok (.getfield 81, 3) := by decide +kernel
theorem dX5_laysPrices_76 : decode cX5_laysPrices 76 = .ok (.iload_n 1, 1) := by decide +kernel
theorem dX5_laysPrices_77 : decode cX5_laysPrices 77 = .ok (.iload_n 2, 1) := by decide +kernel
theorem dX5_laysPrices_78 : decode cX5_laysPrices 78 = .ok (.iconst (-1), 1) := by decide +kernel
theorem dX5_laysPrices_79 : decode cX5_laysPrices 79 = .ok (.ixor, 1) := by decide +kernel
theorem dX5_laysPrices_80 : decode cX5_laysPrices 80 = .ok (.iand, 1) := by decide +kernel
theorem dX5_laysPrices_81 : decode cX5_laysPrices 81 = .ok (.iaload, 1) := by decide +kernel
theorem dX5_laysPrices_82 : decode cX5_laysPrices 82 = .ok (.iadd, 1) := by decide +kernel
theorem dX5_laysPrices_83 : decode cX5_laysPrices 83 = .ok (.istore_n 3, 1) := by decide +kernel
theorem dX5_laysPrices_84 : decode cX5_laysPrices 84 = .ok (.aload_n 0, 1) := by decide +kernel
theorem dX5_laysPrices_85 : decode cX5_laysPrices 85 = .ok (.getfield 81, 3) := by decide +kernel
theorem dX5_laysPrices_88 : decode cX5_laysPrices 88 = .ok (.iload_n 1, 1) := by decide +kernel
theorem dX5_laysPrices_89 : decode cX5_laysPrices 89 = .ok (.iaload, 1) := by decide +kernel
theorem dX5_laysPrices_90 : decode cX5_laysPrices 90 = .ok (.iconst (-1), 1) := by decide +kernel
theorem dX5_laysPrices_91 : decode cX5_laysPrices 91 = .ok (.if_icmp .eq 13, 3) := by decide +kernel
theorem dX5_laysPrices_94 : decode cX5_laysPrices 94 = .ok (.iload_n 3, 1) := by decide +kernel
theorem dX5_laysPrices_95 : decode cX5_laysPrices 95 = .ok (.aload_n 0, 1) := by decide +kernel
theorem dX5_laysPrices_96 : decode cX5_laysPrices 96 = .ok (.getfield 81, 3) := by decide +kernel
theorem dX5_laysPrices_99 : decode cX5_laysPrices 99 = .ok (.iload_n 1, 1) := by decide +kernel
theorem dX5_laysPrices_100 : decode cX5_laysPrices 100 = .ok (.iaload, 1) := by decide +kernel
theorem dX5_laysPrices_101 : decode cX5_laysPrices 101 = .ok (.if_icmp .ge 10, 3) := by decide +kernel
theorem dX5_laysPrices_104 : decode cX5_laysPrices 104 = .ok (.aload_n 0, 1) := by decide +kernel
theorem dX5_laysPrices_105 : decode cX5_laysPrices 105 = .ok (.getfield 81, 3) := by decide +kernel
theorem dX5_laysPrices_108 : decode cX5_laysPrices 108 = .ok (.iload_n 1, 1) := by decide +kernel
theorem dX5_laysPrices_109 : decode cX5_laysPrices 109 = .ok (.iload_n 3, 1) := by decide +kernel
theorem dX5_laysPrices_110 : decode cX5_laysPrices 110 = .ok (.iastore, 1) := by decide +kernel
theorem dX5_laysPrices_111 : decode cX5_laysPrices 111 = .ok (.iload_n 2, 1) := by decide +kernel
theorem dX5_laysPrices_112 : decode cX5_laysPrices 112 = .ok (.iconst 1, 1) := by decide +kernel
theorem dX5_laysPrices_113 : decode cX5_laysPrices 113 = .ok (.isub, 1) := by decide +kernel
theorem dX5_laysPrices_114 : decode cX5_laysPrices 114 = .ok (.iload_n 1, 1) := by decide +kernel
theorem dX5_laysPrices_115 : decode cX5_laysPrices 115 = .ok (.iand, 1) := by decide +kernel
theorem dX5_laysPrices_116 : decode cX5_laysPrices 116 = .ok (.istore_n 2, 1) := by decide +kernel
theorem dX5_laysPrices_117 : decode cX5_laysPrices 117 = .ok (.goto (-91), 3) := by decide +kernel
theorem dX5_laysPrices_120 : decode cX5_laysPrices 120 = .ok (.iinc 1 1, 3) := by decide +kernel
theorem dX5_laysPrices_123 : decode cX5_laysPrices 123 = .ok (.goto (-114), 3) := by decide +kernel
theorem dX5_laysPrices_126 : decode cX5_laysPrices 126 = .ok (.return_, 1) := by decide +kernel
theorem dX5_cheapest_0 : decode cX5_cheapest 0 = .ok (.aload_n 0, 1) := by decide +kernel
theorem dX5_cheapest_1 : decode cX5_cheapest 1 = .ok (.iconst 0, 1) := by decide +kernel
theorem dX5_cheapest_2 : decode cX5_cheapest 2 = .ok (.putfield 1, 3) := by decide +kernel
theorem dX5_cheapest_5 : decode cX5_cheapest 5 = .ok (.aload_n 0, 1) := by decide +kernel
theorem dX5_cheapest_6 : decode cX5_cheapest 6 = .ok (.iload_n 1, 1) := by decide +kernel
theorem dX5_cheapest_7 : decode cX5_cheapest 7 = .ok (.invokevirtual 160, 3) := by decide +kernel
theorem dX5_cheapest_10 : decode cX5_cheapest 10 = .ok (.ifCond .ne 5, 3) := by decide +kernel
theorem dX5_cheapest_13 : decode cX5_cheapest 13 = .ok (.iconst (-1), 1) := by decide +kernel
theorem dX5_cheapest_14 : decode cX5_cheapest 14 = .ok (.ireturn, 1) := by decide +kernel
theorem dX5_cheapest_15 : decode cX5_cheapest 15 = .ok (.aload_n 0, 1) := by decide +kernel
theorem dX5_cheapest_16 : decode cX5_cheapest 16 = .ok (.invokevirtual 227, 3) := by decide +kernel
theorem dX5_cheapest_19 : decode cX5_cheapest 19 = .ok (.aload_n 0, 1) := by decide +kernel
theorem dX5_cheapest_20 : decode cX5_cheapest 20 = .ok (.getfield 81, 3) := by decide +kernel
theorem dX5_cheapest_23 : decode cX5_cheapest 23 = .ok (.iload_n 1, 1) := by decide +kernel
theorem dX5_cheapest_24 : decode cX5_cheapest 24 = .ok (.iaload, 1) := by decide +kernel
theorem dX5_cheapest_25 : decode cX5_cheapest 25 = .ok (.ireturn, 1) := by decide +kernel
theorem dX5_part_0 : decode cX5_part 0 = .ok (.aload_n 0, 1) := by decide +kernel
theorem dX5_part_1 : decode cX5_part 1 = .ok (.iconst 0, 1) := by decide +kernel
theorem dX5_part_2 : decode cX5_part 2 = .ok (.putfield 1, 3) := by decide +kernel
theorem dX5_part_5 : decode cX5_part 5 = .ok (.aload_n 0, 1) := by decide +kernel
theorem dX5_part_6 : decode cX5_part 6 = .ok (.iload_n 1, 1) := by decide +kernel
theorem dX5_part_7 : decode cX5_part 7 = .ok (.invokevirtual 160, 3) := by decide +kernel
theorem dX5_part_10 : decode cX5_part 10 = .ok (.ifCond .eq 7, 3) := by decide +kernel
theorem dX5_part_13 : decode cX5_part 13 = .ok (.iload_n 2, 1) := by decide +kernel
theorem dX5_part_14 : decode cX5_part 14 = .ok (.ifCond .ge 8, 3) := by decide +kernel
theorem dX5_part_17 : decode cX5_part 17 = .ok (.aload_n 0, 1) := by decide +kernel
theorem dX5_part_18 : decode cX5_part 18 = .ok (.invokevirtual 230, 3) := by decide +kernel
theorem dX5_part_21 : decode cX5_part 21 = .ok (.ireturn, 1) := by decide +kernel
theorem dX5_part_22 : decode cX5_part 22 = .ok (.aload_n 0, 1) := by decide +kernel
theorem dX5_part_23 : decode cX5_part 23 = .ok (.invokevirtual 227, 3) := by decide +kernel
theorem dX5_part_26 : decode cX5_part 26 = .ok (.aload_n 0, 1) := by decide +kernel
theorem dX5_part_27 : decode cX5_part 27 = .ok (.getfield 81, 3) := by decide +kernel
theorem dX5_part_30 : decode cX5_part 30 = .ok (.iload_n 1, 1) := by decide +kernel
theorem dX5_part_31 : decode cX5_part 31 = .ok (.iaload, 1) := by decide +kernel
theorem dX5_part_32 : decode cX5_part 32 = .ok (.iconst (-1), 1) := by decide +kernel
theorem dX5_part_33 : decode cX5_part 33 = .ok (.if_icmp .ne 8, 3) := by decide +kernel
theorem dX5_part_36 : decode cX5_part 36 = .ok (.aload_n 0, 1) := by decide +kernel
theorem dX5_part_37 : decode cX5_part 37 = .ok (.invokevirtual 230, 3) := by decide +kernel
theorem dX5_part_40 : decode cX5_part 40 = .ok (.ireturn, 1) := by decide +kernel
theorem dX5_part_41 : decode cX5_part 41 = .ok (.iload_n 1, 1) := by decide +kernel
theorem dX5_part_42 : decode cX5_part 42 = .ok (.istore_n 3, 1) := by decide +kernel
theorem dX5_part_43 : decode cX5_part 43 = .ok (.iconst 0, 1) := by decide +kernel
theorem dX5_part_44 : decode cX5_part 44 = .ok (.istore 4, 2) := by decide +kernel
theorem dX5_part_46 : decode cX5_part 46 = .ok (.iload_n 3, 1) := by decide +kernel
theorem dX5_part_47 : decode cX5_part 47 = .ok (.ifCond .eq 110, 3) := by decide +kernel
theorem dX5_part_50 : decode cX5_part 50 = .ok (.iload_n 3, 1) := by decide +kernel
theorem dX5_part_51 : decode cX5_part 51 = .ok (.iload_n 3, 1) := by decide +kernel
theorem dX5_part_52 : decode cX5_part 52 = .ok (.ineg, 1) := by decide +kernel
theorem dX5_part_53 : decode cX5_part 53 = .ok (.iand, 1) := by decide +kernel
theorem dX5_part_54 : decode cX5_part 54 = .ok (.istore 5, 2) := by decide +kernel
theorem dX5_part_56 : decode cX5_part 56 = .ok (.iload 5, 2) := by decide +kernel
theorem dX5_part_58 : decode cX5_part 58 = .ok (.iload_n 3, 1) := by decide +kernel
theorem dX5_part_59 : decode cX5_part 59 = .ok (.iconst (-1), 1) := by decide +kernel
theorem dX5_part_60 : decode cX5_part 60 = .ok (.ixor, 1) := by decide +kernel
theorem dX5_part_61 : decode cX5_part 61 = .ok (.iand, 1) := by decide +kernel
theorem dX5_part_62 : decode cX5_part 62 = .ok (.ifCond .ne 67, 3) := by decide +kernel
theorem dX5_part_65 : decode cX5_part 65 = .ok (.iload 5, 2) := by decide +kernel
theorem dX5_part_67 : decode cX5_part 67 = .ok (.iload_n 3, 1) := by decide +kernel
theorem dX5_part_68 : decode cX5_part 68 = .ok (.iand, 1) := by decide +kernel
theorem dX5_part_69 : decode cX5_part 69 = .ok (.iload_n 3, 1) := by decide +kernel
theorem dX5_part_70 : decode cX5_part 70 = .ok (.ineg, 1) := by decide +kernel
theorem dX5_part_71 : decode cX5_part 71 = .ok (.iand, 1) := by decide +kernel
theorem dX5_part_72 : decode cX5_part 72 = .ok (.ifCond .eq 57, 3) := by decide +kernel
theorem dX5_part_75 : decode cX5_part 75 = .ok (.aload_n 0, 1) := by decide +kernel
theorem dX5_part_76 : decode cX5_part 76 = .ok (.iload 5, 2) := by decide +kernel
theorem dX5_part_78 : decode cX5_part 78 = .ok (.invokevirtual 220, 3) := by decide +kernel
theorem dX5_part_81 : decode cX5_part 81 = .ok (.ifCond .eq 48, 3) := by decide +kernel
theorem dX5_part_84 : decode cX5_part 84 = .ok (.aload_n 0, 1) := by decide +kernel
theorem dX5_part_85 : decode cX5_part 85 = .ok (.getfield 81, 3) := by decide +kernel
theorem dX5_part_88 : decode cX5_part 88 = .ok (.iload_n 3, 1) := by decide +kernel
theorem dX5_part_89 : decode cX5_part 89 = .ok (.iload 5, 2) := by decide +kernel
theorem dX5_part_91 : decode cX5_part 91 = .ok (.iconst (-1), 1) := by decide +kernel
theorem dX5_part_92 : decode cX5_part 92 = .ok (.ixor, 1) := by decide +kernel
theorem dX5_part_93 : decode cX5_part 93 = .ok (.iand, 1) := by decide +kernel
theorem dX5_part_94 : decode cX5_part 94 = .ok (.iaload, 1) := by decide +kernel
theorem dX5_part_95 : decode cX5_part 95 = .ok (.iconst (-1), 1) := by decide +kernel
theorem dX5_part_96 : decode cX5_part 96 = .ok (.if_icmp .eq 33, 3) := by decide +kernel
theorem dX5_part_99 : decode cX5_part 99 = .ok (.aload_n 0, 1) := by decide +kernel
theorem dX5_part_100 : decode cX5_part 100 = .ok (.getfield 56, 3) := by decide +kernel
theorem dX5_part_103 : decode cX5_part 103 = .ok (.iconst 1, 1) := by decide +kernel
theorem dX5_part_104 : decode cX5_part 104 = .ok (.iload 5, 2) := by decide +kernel
theorem dX5_part_106 : decode cX5_part 106 = .ok (.iadd, 1) := by decide +kernel
theorem dX5_part_107 : decode cX5_part 107 = .ok (.iaload, 1) := by decide +kernel
theorem dX5_part_108 : decode cX5_part 108 = .ok (.aload_n 0, 1) := by decide +kernel
theorem dX5_part_109 : decode cX5_part 109 = .ok (.getfield 81, 3) := by decide +kernel
theorem dX5_part_112 : decode cX5_part 112 = .ok (.iload_n 3, 1) := by decide +kernel
theorem dX5_part_113 : decode cX5_part 113 = .ok (.iload 5, 2) := by decide +kernel
theorem dX5_part_115 : decode cX5_part 115 = .ok (.iconst (-1), 1) := by decide +kernel
theorem dX5_part_116 : decode cX5_part 116 = .ok (.ixor, 1) := by decide +kernel
theorem dX5_part_117 : decode cX5_part 117 = .ok (.iand, 1) := by decide +kernel
theorem dX5_part_118 : decode cX5_part 118 = .ok (.iaload, 1) := by decide +kernel
theorem dX5_part_119 : decode cX5_part 119 = .ok (.iadd, 1) := by decide +kernel
theorem dX5_part_120 : decode cX5_part 120 = .ok (.aload_n 0, 1) := by decide +kernel
theorem dX5_part_121 : decode cX5_part 121 = .ok (.getfield 81, 3) := by decide +kernel
theorem dX5_part_124 : decode cX5_part 124 = .ok (.iload_n 3, 1) := by decide +kernel
theorem dX5_part_125 : decode cX5_part 125 = .ok (.iaload, 1) := by decide +kernel
theorem dX5_part_126 : decode cX5_part 126 = .ok (.if_icmp .eq 9, 3) := by decide +kernel
theorem dX5_part_129 : decode cX5_part 129 = .ok (.iinc 5 1, 3) := by decide +kernel
theorem dX5_part_132 : decode cX5_part 132 = .ok (.goto (-76), 3) := by decide +kernel
theorem dX5_part_135 : decode cX5_part 135 = .ok (.iload 4, 2) := by decide +kernel
theorem dX5_part_137 : decode cX5_part 137 = .ok (.iload_n 2, 1) := by decide +kernel
theorem dX5_part_138 : decode cX5_part 138 = .ok (.if_icmp .ne 6, 3) := by decide +kernel
theorem dX5_part_141 : decode cX5_part 141 = .ok (.iload 5, 2) := by decide +kernel
theorem dX5_part_143 : decode cX5_part 143 = .ok (.ireturn, 1) := by decide +kernel
theorem dX5_part_144 : decode cX5_part 144 = .ok (.iload_n 3, 1) := by decide +kernel
theorem dX5_part_145 : decode cX5_part 145 = .ok (.iload 5, 2) := by decide +kernel
theorem dX5_part_147 : decode cX5_part 147 = .ok (.iconst (-1), 1) := by decide +kernel
theorem dX5_part_148 : decode cX5_part 148 = .ok (.ixor, 1) := by decide +kernel
theorem dX5_part_149 : decode cX5_part 149 = .ok (.iand, 1) := by decide +kernel
theorem dX5_part_150 : decode cX5_part 150 = .ok (.istore_n 3, 1) := by decide +kernel
theorem dX5_part_151 : decode cX5_part 151 = .ok (.iinc 4 1, 3) := by decide +kernel
theorem dX5_part_154 : decode cX5_part 154 = .ok (.goto (-108), 3) := by decide +kernel
theorem dX5_part_157 : decode cX5_part 157 = .ok (.aload_n 0, 1) := by decide +kernel
theorem dX5_part_158 : decode cX5_part 158 = .ok (.invokevirtual 230, 3) := by decide +kernel
theorem dX5_part_161 : decode cX5_part 161 = .ok (.ireturn, 1) := by decide +kernel
theorem dX5_laysPlain_0 : decode cX5_laysPlain 0 = .ok (.iconst 0, 1) := by decide +kernel
theorem dX5_laysPlain_1 : decode cX5_laysPlain 1 = .ok (.istore_n 1, 1) := by decide +kernel
theorem dX5_laysPlain_2 : decode cX5_laysPlain 2 = .ok (.iload_n 1, 1) := by decide +kernel
theorem dX5_laysPlain_3 : decode cX5_laysPlain 3 = .ok (.aload_n 0, 1) := by decide +kernel
theorem dX5_laysPlain_4 : decode cX5_laysPlain 4 = .ok (.invokevirtual 151, 3) := by decide +kernel
theorem dX5_laysPlain_7 : decode cX5_laysPlain 7 = .ok (.if_icmp .gt 127, 3) := by decide +kernel
theorem dX5_laysPlain_10 : decode cX5_laysPlain 10 = .ok (.iconst 0, 1) := by decide +kernel
theorem dX5_laysPlain_11 : decode cX5_laysPlain 11 = .ok (.istore_n 2, 1) := by decide +kernel
theorem dX5_laysPlain_12 : decode cX5_laysPlain 12 = .ok (.iload_n 2, 1) := by decide +kernel
theorem dX5_laysPlain_13 : decode cX5_laysPlain 13 = .ok (.bipush 8, 2) := by decide +kernel
theorem dX5_laysPlain_15 : decode cX5_laysPlain 15 = .ok (.if_icmp .gt 33, 3) := by decide +kernel
theorem dX5_laysPlain_18 : decode cX5_laysPlain 18 = .ok (.aload_n 0, 1) := by decide +kernel
theorem dX5_laysPlain_19 : decode cX5_laysPlain 19 = .ok (.getfield 84, 3) := by decide +kernel
theorem dX5_laysPlain_22 : decode cX5_laysPlain 22 = .ok (.bipush 9, 2) := by decide +kernel
theorem dX5_laysPlain_24 : decode cX5_laysPlain 24 = .ok (.iload_n 1, 1) := by decide +kernel
theorem dX5_laysPlain_25 : decode cX5_laysPlain 25 = .ok (.imul, 1) := by decide +kernel
theorem dX5_laysPlain_26 : decode cX5_laysPlain 26 = .ok (.iload_n 2, 1) := by decide +kernel
theorem dX5_laysPlain_27 : decode cX5_laysPlain 27 = .ok (.iadd, 1) := by decide +kernel
theorem dX5_laysPlain_28 : decode cX5_laysPlain 28 = .ok (.iload_n 1, 1) := by decide +kernel
theorem dX5_laysPlain_29 : decode cX5_laysPlain 29 = .ok (.ifCond .ne 11, 3) := by decide +kernel
theorem dX5_laysPlain_32 : decode cX5_laysPlain 32 = .ok (.iload_n 2, 1) := by decide +kernel
theorem dX5_laysPlain_33 : decode cX5_laysPlain 33 = .ok (.ifCond .ne 7, 3) := by decide +kernel
theorem dX5_laysPlain_36 : decode cX5_laysPlain 36 = .ok (.iconst 1, 1) := by decide +kernel
theorem dX5_laysPlain_37 : decode cX5_laysPlain 37 = .ok (.goto 4, 3) := by decide +kernel
theorem dX5_laysPlain_40 : decode cX5_laysPlain 40 = .ok (.iconst 0, 1) := by decide +kernel
theorem dX5_laysPlain_41 : decode cX5_laysPlain 41 = .ok (.iastore, 1) := by decide +kernel
theorem dX5_laysPlain_42 : decode cX5_laysPlain 42 = .ok (.iinc 2 1, 3) := by decide +kernel
theorem dX5_laysPlain_45 : decode cX5_laysPlain 45 = .ok (.goto (-33), 3) := by decide +kernel
theorem dX5_laysPlain_48 : decode cX5_laysPlain 48 = .ok (.iload_n 1, 1) := by decide +kernel
theorem dX5_laysPlain_49 : decode cX5_laysPlain 49 = .ok (.istore_n 2, 1) := by decide +kernel
theorem dX5_laysPlain_50 : decode cX5_laysPlain 50 = .ok (.iload_n 2, 1) := by decide +kernel
theorem dX5_laysPlain_51 : decode cX5_laysPlain 51 = .ok (.ifCond .le 77, 3) := by decide +kernel
theorem dX5_laysPlain_54 : decode cX5_laysPlain 54 = .ok (.iload_n 2, 1) := by decide +kernel
theorem dX5_laysPlain_55 : decode cX5_laysPlain 55 = .ok (.iload_n 1, 1) := by decide +kernel
theorem dX5_laysPlain_56 : decode cX5_laysPlain 56 = .ok (.iand, 1) := by decide +kernel
theorem dX5_laysPlain_57 : decode cX5_laysPlain 57 = .ok (.iload_n 1, 1) := by decide +kernel
theorem dX5_laysPlain_58 : decode cX5_laysPlain 58 = .ok (.ineg, 1) := by decide +kernel
theorem dX5_laysPlain_59 : decode cX5_laysPlain 59 = .ok (.iand, 1) := by decide +kernel
theorem dX5_laysPlain_60 : decode cX5_laysPlain 60 = .ok (.ifCond .eq 59, 3) := by decide +kernel
theorem dX5_laysPlain_63 : decode cX5_laysPlain 63 = .ok (.aload_n 0, 1) := by decide +kernel
theorem dX5_laysPlain_64 : decode cX5_laysPlain 64 = .ok (.iload_n 2, 1) := by decide +kernel
theorem dX5_laysPlain_65 : decode cX5_laysPlain 65 = .ok (.invokevirtual 157, 3) := by decide +kernel
theorem dX5_laysPlain_68 : decode cX5_laysPlain 68 = .ok (.ifCond .le 6, 3) := by decide +kernel
theorem dX5_laysPlain_71 : decode cX5_laysPlain 71 = .ok (.goto 48, 3) := by decide +kernel
theorem dX5_laysPlain_74 : decode cX5_laysPlain 74 = .ok (.iconst 1, 1) := by decide +kernel
theorem dX5_laysPlain_75 : decode cX5_laysPlain 75 = .ok (.istore_n 3, 1) := by decide +kernel
theorem dX5_laysPlain_76 : decode cX5_laysPlain 76 = .ok (.iload_n 3, 1) := by decide +kernel
theorem dX5_laysPlain_77 : decode cX5_laysPlain 77 = .ok (.bipush 8, 2) := by decide +kernel
theorem dX5_laysPlain_79 : decode cX5_laysPlain 79 = .ok (.if_icmp .gt 40, 3) := by decide +kernel
theorem dX5_laysPlain_82 : decode cX5_laysPlain 82 = .ok (.aload_n 0, 1) := by decide +kernel
theorem dX5_laysPlain_83 : decode cX5_laysPlain 83 = .ok (.getfield 84, 3) := by decide +kernel
theorem dX5_laysPlain_86 : decode cX5_laysPlain 86 = .ok (.bipush 9, 2) := by decide +kernel
theorem dX5_laysPlain_88 : decode cX5_laysPlain 88 = .ok (.iload_n 1, 1) := by decide +kernel
theorem dX5_laysPlain_89 : decode cX5_laysPlain 89 = .ok (.imul, 1) := by decide +kernel
theorem dX5_laysPlain_90 : decode cX5_laysPlain 90 = .ok (.iload_n 3, 1) := by decide +kernel
theorem dX5_laysPlain_91 : decode cX5_laysPlain 91 = .ok (.iadd, 1) := by decide +kernel
theorem dX5_laysPlain_92 : decode cX5_laysPlain 92 = .ok (.dup2, 1) := by decide +kernel
theorem dX5_laysPlain_93 : decode cX5_laysPlain 93 = .ok (.iaload, 1) := by decide +kernel
theorem dX5_laysPlain_94 : decode cX5_laysPlain 94 = .ok (.aload_n 0, 1) := by decide +kernel
theorem dX5_laysPlain_95 : decode cX5_laysPlain 95 = .ok (.getfield 84, 3) := by decide +kernel
theorem dX5_laysPlain_98 : decode cX5_laysPlain 98 = .ok (.bipush 9, 2) := by decide +kernel
theorem dX5_laysPlain_100 : decode cX5_laysPlain 100 = .ok (.iload_n 1, 1) := by decide +kernel
theorem dX5_laysPlain_101 : decode cX5_laysPlain 101 = .ok (.iload_n 2, 1) := by decide +kernel
theorem dX5_laysPlain_102 : decode cX5_laysPlain 102 = .ok (.iconst (-1), 1) := by decide +kernel
theorem dX5_laysPlain_103 : decode cX5_laysPlain 103 = .ok (.ixor, 1) := by decide +kernel
theorem dX5_laysPlain_104 : decode cX5_laysPlain 104 = .ok (.iand, 1) := by decide +kernel
theorem dX5_laysPlain_105 : decode cX5_laysPlain 105 = .ok (.imul, 1) := by decide +kernel
theorem dX5_laysPlain_106 : decode cX5_laysPlain 106 = .ok (.iload_n 3, 1) := by decide +kernel
theorem dX5_laysPlain_107 : decode cX5_laysPlain 107 = .ok (.iadd, 1) := by decide +kernel
theorem dX5_laysPlain_108 : decode cX5_laysPlain 108 = .ok (.iconst 1, 1) := by decide +kernel
theorem dX5_laysPlain_109 : decode cX5_laysPlain 109 = .ok (.isub, 1) := by decide +kernel
theorem dX5_laysPlain_110 : decode cX5_laysPlain 110 = .ok (.iaload, 1) := by decide +kernel
theorem dX5_laysPlain_111 : decode cX5_laysPlain 111 = .ok (.iadd, 1) := by decide +kernel
theorem dX5_laysPlain_112 : decode cX5_laysPlain 112 = .ok (.iastore, 1) := by decide +kernel
theorem dX5_laysPlain_113 : decode cX5_laysPlain 113 = .ok (.iinc 3 1, 3) := by decide +kernel
theorem dX5_laysPlain_116 : decode cX5_laysPlain 116 = .ok (.goto (-40), 3) := by decide +kernel
theorem dX5_laysPlain_119 : decode cX5_laysPlain 119 = .ok (.iload_n 2, 1) := by decide +kernel
theorem dX5_laysPlain_120 : decode cX5_laysPlain 120 = .ok (.iconst 1, 1) := by decide +kernel
theorem dX5_laysPlain_121 : decode cX5_laysPlain 121 = .ok (.isub, 1) := by decide +kernel
theorem dX5_laysPlain_122 : decode cX5_laysPlain 122 = .ok (.iload_n 1, 1) := by decide +kernel
theorem dX5_laysPlain_123 : decode cX5_laysPlain 123 = .ok (.iand, 1) := by decide +kernel
theorem dX5_laysPlain_124 : decode cX5_laysPlain 124 = .ok (.istore_n 2, 1) := by decide +kernel
theorem dX5_laysPlain_125 : decode cX5_laysPlain 125 = .ok (.goto (-75), 3) := by decide +kernel
theorem dX5_laysPlain_128 : decode cX5_laysPlain 128 = .ok (.iinc 1 1, 3) := by decide +kernel
theorem dX5_laysPlain_131 : decode cX5_laysPlain 131 = .ok (.goto (-129), 3) := by decide +kernel
theorem dX5_laysPlain_134 : decode cX5_laysPlain 134 = .ok (.return_, 1) := by decide +kernel
theorem dX5_fewest_0 : decode cX5_fewest 0 = .ok (.aload_n 0, 1) := by decide +kernel
theorem dX5_fewest_1 : decode cX5_fewest 1 = .ok (.invokevirtual 233, 3) := by decide +kernel
theorem dX5_fewest_4 : decode cX5_fewest 4 = .ok (.iconst 0, 1) := by decide +kernel
theorem dX5_fewest_5 : decode cX5_fewest 5 = .ok (.istore_n 2, 1) := by decide +kernel
theorem dX5_fewest_6 : decode cX5_fewest 6 = .ok (.aload_n 0, 1) := by decide +kernel
theorem dX5_fewest_7 : decode cX5_fewest 7 = .ok (.getfield 84, 3) := by decide +kernel
theorem dX5_fewest_10 : decode cX5_fewest 10 = .ok (.bipush 9, 2) := by decide +kernel
theorem dX5_fewest_12 : decode cX5_fewest 12 = .ok (.iload_n 1, 1) := by decide +kernel
theorem dX5_fewest_13 : decode cX5_fewest 13 = .ok (.imul, 1) := by decide +kernel
theorem dX5_fewest_14 : decode cX5_fewest 14 = .ok (.iload_n 2, 1) := by decide +kernel
theorem dX5_fewest_15 : decode cX5_fewest 15 = .ok (.iadd, 1) := by decide +kernel
theorem dX5_fewest_16 : decode cX5_fewest 16 = .ok (.iaload, 1) := by decide +kernel
theorem dX5_fewest_17 : decode cX5_fewest 17 = .ok (.ifCond .ne 9, 3) := by decide +kernel
theorem dX5_fewest_20 : decode cX5_fewest 20 = .ok (.iinc 2 1, 3) := by decide +kernel
theorem dX5_fewest_23 : decode cX5_fewest 23 = .ok (.goto (-17), 3) := by decide +kernel
theorem dX5_fewest_26 : decode cX5_fewest 26 = .ok (.iload_n 2, 1) := by decide +kernel
theorem dX5_fewest_27 : decode cX5_fewest 27 = .ok (.ireturn, 1) := by decide +kernel
theorem dX5_colours_0 : decode cX5_colours 0 = .ok (.aload_n 0, 1) := by decide +kernel
theorem dX5_colours_1 : decode cX5_colours 1 = .ok (.iconst 0, 1) := by decide +kernel
theorem dX5_colours_2 : decode cX5_colours 2 = .ok (.putfield 1, 3) := by decide +kernel
theorem dX5_colours_5 : decode cX5_colours 5 = .ok (.aload_n 0, 1) := by decide +kernel
theorem dX5_colours_6 : decode cX5_colours 6 = .ok (.iload_n 1, 1) := by decide +kernel
theorem dX5_colours_7 : decode cX5_colours 7 = .ok (.invokevirtual 160, 3) := by decide +kernel
theorem dX5_colours_10 : decode cX5_colours 10 = .ok (.ifCond .eq 11, 3) := by decide +kernel
theorem dX5_colours_13 : decode cX5_colours 13 = .ok (.aload_n 0, 1) := by decide +kernel
theorem dX5_colours_14 : decode cX5_colours 14 = .ok (.iload_n 1, 1) := by decide +kernel
theorem dX5_colours_15 : decode cX5_colours 15 = .ok (.invokevirtual 236, 3) := by decide +kernel
theorem dX5_colours_18 : decode cX5_colours 18 = .ok (.goto 4, 3) := by decide +kernel
theorem dX5_colours_21 : decode cX5_colours 21 = .ok (.iconst (-1), 1) := by decide +kernel
theorem dX5_colours_22 : decode cX5_colours 22 = .ok (.ireturn, 1) := by decide +kernel
theorem dX5_paints_0 : decode cX5_paints 0 = .ok (.iload_n 2, 1) := by decide +kernel
theorem dX5_paints_1 : decode cX5_paints 1 = .ok (.aload_n 0, 1) := by decide +kernel
theorem dX5_paints_2 : decode cX5_paints 2 = .ok (.invokevirtual 148, 3) := by decide +kernel
theorem dX5_paints_5 : decode cX5_paints 5 = .ok (.if_icmp .ne 5, 3) := by decide +kernel
theorem dX5_paints_8 : decode cX5_paints 8 = .ok (.iconst 1, 1) := by decide +kernel
theorem dX5_paints_9 : decode cX5_paints 9 = .ok (.ireturn, 1) := by decide +kernel
theorem dX5_paints_10 : decode cX5_paints 10 = .ok (.iload_n 1, 1) := by decide +kernel
theorem dX5_paints_11 : decode cX5_paints 11 = .ok (.iload_n 2, 1) := by decide +kernel
theorem dX5_paints_12 : decode cX5_paints 12 = .ok (.invokestatic 103, 3) := by decide +kernel
theorem dX5_paints_15 : decode cX5_paints 15 = .ok (.ifCond .ne 13, 3) := by decide +kernel
theorem dX5_paints_18 : decode cX5_paints 18 = .ok (.aload_n 0, 1) := by decide +kernel
theorem dX5_paints_19 : decode cX5_paints 19 = .ok (.iload_n 1, 1) := by decide +kernel
theorem dX5_paints_20 : decode cX5_paints 20 = .ok (.iload_n 2, 1) := by decide +kernel
theorem dX5_paints_21 : decode cX5_paints 21 = .ok (.iconst 1, 1) := by decide +kernel
theorem dX5_paints_22 : decode cX5_paints 22 = .ok (.iadd, 1) := by decide +kernel
theorem dX5_paints_23 : decode cX5_paints 23 = .ok (.iload_n 3, 1) := by decide +kernel
theorem dX5_paints_24 : decode cX5_paints 24 = .ok (.invokevirtual 239, 3) := by decide +kernel
theorem dX5_paints_27 : decode cX5_paints 27 = .ok (.ireturn, 1) := by decide +kernel
theorem dX5_paints_28 : decode cX5_paints 28 = .ok (.iconst 0, 1) := by decide +kernel
theorem dX5_paints_29 : decode cX5_paints 29 = .ok (.istore 4, 2) := by decide +kernel
theorem dX5_paints_31 : decode cX5_paints 31 = .ok (.iload 4, 2) := by decide +kernel
theorem dX5_paints_33 : decode cX5_paints 33 = .ok (.iload_n 3, 1) := by decide +kernel
theorem dX5_paints_34 : decode cX5_paints 34 = .ok (.if_icmp .ge 89, 3) := by decide +kernel
theorem dX5_paints_37 : decode cX5_paints 37 = .ok (.iconst 1, 1) := by decide +kernel
theorem dX5_paints_38 : decode cX5_paints 38 = .ok (.istore 5, 2) := by decide +kernel
theorem dX5_paints_40 : decode cX5_paints 40 = .ok (.iconst 0, 1) := by decide +kernel
theorem dX5_paints_41 : decode cX5_paints 41 = .ok (.istore 6, 2) := by decide +kernel
theorem dX5_paints_43 : decode cX5_paints 43 = .ok (.iload 6, 2) := by decide +kernel
theorem dX5_paints_45 : decode cX5_paints 45 = .ok (.iload_n 2, 1) := by decide +kernel
theorem dX5_paints_46 : decode cX5_paints 46 = .ok (.if_icmp .ge 44, 3) := by decide +kernel
theorem dX5_paints_49 : decode cX5_paints 49 = .ok (.iload_n 1, 1) := by decide +kernel
theorem dX5_paints_50 : decode cX5_paints 50 = .ok (.aload_n 0, 1) := by decide +kernel
theorem dX5_paints_51 : decode cX5_paints 51 = .ok (.getfield 56, 3) := by decide +kernel
theorem dX5_paints_54 : decode cX5_paints 54 = .ok (.sipush 257, 3) := by decide +kernel
theorem dX5_paints_57 : decode cX5_paints 57 = .ok (.iload_n 2, 1) := by decide +kernel
theorem dX5_paints_58 : decode cX5_paints 58 = .ok (.iadd, 1) := by decide +kernel
theorem dX5_paints_59 : decode cX5_paints 59 = .ok (.iaload, 1) := by decide +kernel
theorem dX5_paints_60 : decode cX5_paints 60 = .ok (.iand, 1) := by decide +kernel
theorem dX5_paints_61 : decode cX5_paints 61 = .ok (.iload 6, 2) := by decide +kernel
theorem dX5_paints_63 : decode cX5_paints 63 = .ok (.invokestatic 103, 3) := by decide +kernel
theorem dX5_paints_66 : decode cX5_paints 66 = .ok (.ifCond .eq 18, 3) := by decide +kernel
theorem dX5_paints_69 : decode cX5_paints 69 = .ok (.aload_n 0, 1) := by decide +kernel
theorem dX5_paints_70 : decode cX5_paints 70 = .ok (.getfield 87, 3) := by decide +kernel
theorem dX5_paints_73 : decode cX5_paints 73 = .ok (.iload 6, 2) := by decide +kernel
theorem dX5_paints_75 : decode cX5_paints 75 = .ok (.iaload, 1) := by decide +kernel
theorem dX5_paints_76 : decode cX5_paints 76 = .ok (.iload 4, 2) := by decide +kernel
theorem dX5_paints_78 : decode cX5_paints 78 = .ok (.if_icmp .ne 6, 3) := by decide +kernel
theorem dX5_paints_81 : decode cX5_paints 81 = .ok (.iconst 0, 1) := by decide +kernel
theorem dX5_paints_82 : decode cX5_paints 82 = .ok (.istore 5, 2) := by decide +kernel
theorem dX5_paints_84 : decode cX5_paints 84 = .ok (.iinc 6 1, 3) := by decide +kernel
theorem dX5_paints_87 : decode cX5_paints 87 = .ok (.goto (-44), 3) := by decide +kernel
theorem dX5_paints_90 : decode cX5_paints 90 = .ok (.aload_n 0, 1) := by decide +kernel
theorem dX5_paints_91 : decode cX5_paints 91 = .ok (.getfield 87, 3) := by decide +kernel
theorem dX5_paints_94 : decode cX5_paints 94 = .ok (.iload_n 2, 1) := by decide +kernel
theorem dX5_paints_95 : decode cX5_paints 95 = .ok (.iload 4, 2) := by decide +kernel
theorem dX5_paints_97 : decode cX5_paints 97 = .ok (.iastore, 1) := by decide +kernel
theorem dX5_paints_98 : decode cX5_paints 98 = .ok (.iload 5, 2) := by decide +kernel
theorem dX5_paints_100 : decode cX5_paints 100 = .ok (.ifCond .eq 17, 3) := by decide +kernel
theorem dX5_paints_103 : decode cX5_paints 103 = .ok (.aload_n 0, 1) := by decide +kernel
theorem dX5_paints_104 : decode cX5_paints 104 = .ok (.iload_n 1, 1) := by decide +kernel
theorem dX5_paints_105 : decode cX5_paints 105 = .ok (.iload_n 2, 1) := by decide +kernel
theorem dX5_paints_106 : decode cX5_paints 106 = .ok (.iconst 1, 1) := by decide +kernel
theorem dX5_paints_107 : decode cX5_paints 107 = .ok (.iadd, 1) := by decide +kernel
theorem dX5_paints_108 : decode cX5_paints 108 = .ok (.iload_n 3, 1) := by decide +kernel
theorem dX5_paints_109 : decode cX5_paints 109 = .ok (.invokevirtual 239, 3) := by decide +kernel
theorem dX5_paints_112 : decode cX5_paints 112 = .ok (.ifCond .eq 5, 3) := by decide +kernel
theorem dX5_paints_115 : decode cX5_paints 115 = .ok (.iconst 1, 1) := by decide +kernel
theorem dX5_paints_116 : decode cX5_paints 116 = .ok (.ireturn, 1) := by decide +kernel
theorem dX5_paints_117 : decode cX5_paints 117 = .ok (.iinc 4 1, 3) := by decide +kernel
theorem dX5_paints_120 : decode cX5_paints 120 = .ok (.goto (-89), 3) := by decide +kernel
theorem dX5_paints_123 : decode cX5_paints 123 = .ok (.iconst 0, 1) := by decide +kernel
theorem dX5_paints_124 : decode cX5_paints 124 = .ok (.ireturn, 1) := by decide +kernel
theorem dX5_colour_0 : decode cX5_colour 0 = .ok (.aload_n 0, 1) := by decide +kernel
theorem dX5_colour_1 : decode cX5_colour 1 = .ok (.iconst 0, 1) := by decide +kernel
theorem dX5_colour_2 : decode cX5_colour 2 = .ok (.putfield 1, 3) := by decide +kernel
theorem dX5_colour_5 : decode cX5_colour 5 = .ok (.aload_n 0, 1) := by decide +kernel
theorem dX5_colour_6 : decode cX5_colour 6 = .ok (.iload_n 1, 1) := by decide +kernel
theorem dX5_colour_7 : decode cX5_colour 7 = .ok (.invokevirtual 160, 3) := by decide +kernel
theorem dX5_colour_10 : decode cX5_colour 10 = .ok (.ifCond .eq 19, 3) := by decide +kernel
theorem dX5_colour_13 : decode cX5_colour 13 = .ok (.aload_n 0, 1) := by decide +kernel
theorem dX5_colour_14 : decode cX5_colour 14 = .ok (.iload_n 2, 1) := by decide +kernel
theorem dX5_colour_15 : decode cX5_colour 15 = .ok (.invokevirtual 163, 3) := by decide +kernel
theorem dX5_colour_18 : decode cX5_colour 18 = .ok (.ifCond .eq 11, 3) := by decide +kernel
theorem dX5_colour_21 : decode cX5_colour 21 = .ok (.iload_n 1, 1) := by decide +kernel
theorem dX5_colour_22 : decode cX5_colour 22 = .ok (.iload_n 2, 1) := by decide +kernel
theorem dX5_colour_23 : decode cX5_colour 23 = .ok (.invokestatic 103, 3) := by decide +kernel
theorem dX5_colour_26 : decode cX5_colour 26 = .ok (.ifCond .ne 5, 3) := by decide +kernel
theorem dX5_colour_29 : decode cX5_colour 29 = .ok (.iconst (-1), 1) := by decide +kernel
theorem dX5_colour_30 : decode cX5_colour 30 = .ok (.ireturn, 1) := by decide +kernel
theorem dX5_colour_31 : decode cX5_colour 31 = .ok (.aload_n 0, 1) := by decide +kernel
theorem dX5_colour_32 : decode cX5_colour 32 = .ok (.iload_n 1, 1) := by decide +kernel
theorem dX5_colour_33 : decode cX5_colour 33 = .ok (.iconst 0, 1) := by decide +kernel
theorem dX5_colour_34 : decode cX5_colour 34 = .ok (.aload_n 0, 1) := by decide +kernel
theorem dX5_colour_35 : decode cX5_colour 35 = .ok (.iload_n 1, 1) := by decide +kernel
theorem dX5_colour_36 : decode cX5_colour 36 = .ok (.invokevirtual 236, 3) := by decide +kernel
theorem dX5_colour_39 : decode cX5_colour 39 = .ok (.invokevirtual 239, 3) := by decide +kernel
theorem dX5_colour_42 : decode cX5_colour 42 = .ok (.pop, 1) := by decide +kernel
theorem dX5_colour_43 : decode cX5_colour 43 = .ok (.aload_n 0, 1) := by decide +kernel
theorem dX5_colour_44 : decode cX5_colour 44 = .ok (.getfield 87, 3) := by decide +kernel
theorem dX5_colour_47 : decode cX5_colour 47 = .ok (.iload_n 2, 1) := by decide +kernel
theorem dX5_colour_48 : decode cX5_colour 48 = .ok (.iaload, 1) := by decide +kernel
theorem dX5_colour_49 : decode cX5_colour 49 = .ok (.ireturn, 1) := by decide +kernel
theorem dX5_colourings_0 : decode cX5_colourings 0 = .ok (.aload_n 0, 1) := by decide +kernel
theorem dX5_colourings_1 : decode cX5_colourings 1 = .ok (.iconst 0, 1) := by decide +kernel
theorem dX5_colourings_2 : decode cX5_colourings 2 = .ok (.putfield 1, 3) := by decide +kernel
theorem dX5_colourings_5 : decode cX5_colourings 5 = .ok (.aload_n 0, 1) := by decide +kernel
theorem dX5_colourings_6 : decode cX5_colourings 6 = .ok (.iload_n 1, 1) := by decide +kernel
theorem dX5_colourings_7 : decode cX5_colourings 7 = .ok (.invokevirtual 160, 3) := by decide +kernel
theorem dX5_colourings_10 : decode cX5_colourings 10 = .ok (.ifCond .eq 13, 3) := by decide +kernel
theorem dX5_colourings_13 : decode cX5_colourings 13 = .ok (.iload_n 2, 1) := by decide +kernel
theorem dX5_colourings_14 : decode cX5_colourings 14 = .ok (.iconst 0, 1) := by decide +kernel
theorem dX5_colourings_15 : decode cX5_colourings 15 = .ok (.bipush 99, 2) := by decide +kernel
theorem dX5_colourings_17 : decode cX5_colourings 17 = .ok (.invokestatic 99, 3) := by decide +kernel
theorem dX5_colourings_20 : decode cX5_colourings 20 = .ok (.ifCond .ne 7, 3) := by decide +kernel
theorem dX5_colourings_23 : decode cX5_colourings 23 = .ok (.ldc2_w 242, 3) := by decide +kernel
theorem dX5_colourings_26 : decode cX5_colourings 26 = .ok (.lreturn, 1) := by decide +kernel
theorem dX5_colourings_27 : decode cX5_colourings 27 = .ok (.aload_n 0, 1) := by decide +kernel
theorem dX5_colourings_28 : decode cX5_colourings 28 = .ok (.invokevirtual 233, 3) := by decide +kernel
theorem dX5_colourings_31 : decode cX5_colourings 31 = .ok (.lconst 0, 1) := by decide +kernel
theorem dX5_colourings_32 : decode cX5_colourings 32 = .ok (.lstore_n 3, 1) := by decide +kernel
theorem dX5_colourings_33 : decode cX5_colourings 33 = .ok (.lconst 1, 1) := by decide +kernel
theorem dX5_colourings_34 : decode cX5_colourings 34 = .ok (.lstore 5, 2) := by decide +kernel
theorem dX5_colourings_36 : decode cX5_colourings 36 = .ok (.iconst 0, 1) := by decide +kernel
theorem dX5_colourings_37 : decode cX5_colourings 37 = .ok (.istore 7, 2) := by decide +kernel
theorem dX5_colourings_39 : decode cX5_colourings 39 = .ok (.iload 7, 2) := by decide +kernel
theorem dX5_colourings_41 : decode cX5_colourings 41 = .ok (.bipush 8, 2) := by decide +kernel
theorem dX5_colourings_43 : decode cX5_colourings 43 = .ok (.if_icmp .gt 48, 3) := by decide +kernel
theorem dX5_colourings_46 : decode cX5_colourings 46 = .ok (.lload_n 3, 1) := by decide +kernel
theorem dX5_colourings_47 : decode cX5_colourings 47 = .ok (.aload_n 0, 1) := by decide +kernel
theorem dX5_colourings_48 : decode cX5_colourings 48 = .ok (.getfield 84, 3) := by decide +kernel
theorem dX5_colourings_51 : decode cX5_colourings 51 = .ok (.bipush 9, 2) := by decide +kernel
theorem dX5_colourings_53 : decode cX5_colourings 53 = .ok (.iload_n 1, 1) := by decide +kernel
theorem dX5_colourings_54 : decode cX5_colourings 54 = .ok (.imul, 1) := by decide +kernel
theorem dX5_colourings_55 : decode cX5_colourings 55 = .ok (.iload 7, 2) := by decide +kernel
theorem dX5_colourings_57 : decode cX5_colourings 57 = .ok (.iadd, 1) := by decide +kernel
theorem dX5_colourings_58 : decode cX5_colourings 58 = .ok (.iaload, 1) := by decide +kernel
theorem dX5_colourings_59 : decode cX5_colourings 59 = .ok (.i2l, 1) := by decide +kernel
theorem dX5_colourings_60 : decode cX5_colourings 60 = .ok (.lload 5, 2) := by decide +kernel
theorem dX5_colourings_62 : decode cX5_colourings 62 = .ok (.lmul, 1) := by decide +kernel
theorem dX5_colourings_63 : decode cX5_colourings 63 = .ok (.ladd, 1) := by decide +kernel
theorem dX5_colourings_64 : decode cX5_colourings 64 = .ok (.lstore_n 3, 1) := by decide +kernel
theorem dX5_colourings_65 : decode cX5_colourings 65 = .ok (.lload 5, 2) := by decide +kernel
theorem dX5_colourings_67 : decode cX5_colourings 67 = .ok (.iload_n 2, 1) := by decide +kernel
theorem dX5_colourings_68 : decode cX5_colourings 68 = .ok (.iload 7, 2) := by decide +kernel
theorem dX5_colourings_70 : decode cX5_colourings 70 = .ok (.if_icmp .le 11, 3) := by decide +kernel
theorem dX5_colourings_73 : decode cX5_colourings 73 = .ok (.iload_n 2, 1) := by decide +kernel
theorem dX5_colourings_74 : decode cX5_colourings 74 = .ok (.iload 7, 2) := by decide +kernel
theorem dX5_colourings_76 : decode cX5_colourings 76 = .ok (.isub, 1) := by decide +kernel
theorem dX5_colourings_77 : decode cX5_colourings 77 = .ok (.i2l, 1) := by decide +kernel
theorem dX5_colourings_78 : decode cX5_colourings 78 = .ok (.goto 4, 3) := by decide +kernel
theorem dX5_colourings_81 : decode cX5_colourings 81 = .ok (.lconst 0, 1) := by decide +kernel
theorem dX5_colourings_82 : decode cX5_colourings 82 = .ok (.lmul, 1) := by decide +kernel
theorem dX5_colourings_83 : decode cX5_colourings 83 = .ok (.lstore 5, 2) := by decide +kernel
theorem dX5_colourings_85 : decode cX5_colourings 85 = .ok (.iinc 7 1, 3) := by decide +kernel
theorem dX5_colourings_88 : decode cX5_colourings 88 = .ok (.goto (-49), 3) := by decide +kernel
theorem dX5_colourings_91 : decode cX5_colourings 91 = .ok (.lload_n 3, 1) := by decide +kernel
theorem dX5_colourings_92 : decode cX5_colourings 92 = .ok (.lreturn, 1) := by decide +kernel
theorem dX5_hangs_0 : decode cX5_hangs 0 = .ok (.aload_n 0, 1) := by decide +kernel
theorem dX5_hangs_1 : decode cX5_hangs 1 = .ok (.iconst 0, 1) := by decide +kernel
theorem dX5_hangs_2 : decode cX5_hangs 2 = .ok (.putfield 1, 3) := by decide +kernel
theorem dX5_hangs_5 : decode cX5_hangs 5 = .ok (.aload_n 0, 1) := by decide +kernel
theorem dX5_hangs_6 : decode cX5_hangs 6 = .ok (.iload_n 1, 1) := by decide +kernel
theorem dX5_hangs_7 : decode cX5_hangs 7 = .ok (.invokevirtual 160, 3) := by decide +kernel
theorem dX5_hangs_10 : decode cX5_hangs 10 = .ok (.ifCond .ne 5, 3) := by decide +kernel
theorem dX5_hangs_13 : decode cX5_hangs 13 = .ok (.iconst (-1), 1) := by decide +kernel
theorem dX5_hangs_14 : decode cX5_hangs 14 = .ok (.ireturn, 1) := by decide +kernel
theorem dX5_hangs_15 : decode cX5_hangs 15 = .ok (.aload_n 0, 1) := by decide +kernel
theorem dX5_hangs_16 : decode cX5_hangs 16 = .ok (.getfield 90, 3) := by decide +kernel
theorem dX5_hangs_19 : decode cX5_hangs 19 = .ok (.iconst 0, 1) := by decide +kernel
theorem dX5_hangs_20 : decode cX5_hangs 20 = .ok (.iconst 0, 1) := by decide +kernel
theorem dX5_hangs_21 : decode cX5_hangs 21 = .ok (.iastore, 1) := by decide +kernel
theorem dX5_hangs_22 : decode cX5_hangs 22 = .ok (.iconst 1, 1) := by decide +kernel
theorem dX5_hangs_23 : decode cX5_hangs 23 = .ok (.istore_n 2, 1) := by decide +kernel
theorem dX5_hangs_24 : decode cX5_hangs 24 = .ok (.iload_n 2, 1) := by decide +kernel
theorem dX5_hangs_25 : decode cX5_hangs 25 = .ok (.iload_n 1, 1) := by decide +kernel
theorem dX5_hangs_26 : decode cX5_hangs 26 = .ok (.if_icmp .gt 77, 3) := by decide +kernel
theorem dX5_hangs_29 : decode cX5_hangs 29 = .ok (.aload_n 0, 1) := by decide +kernel
theorem dX5_hangs_30 : decode cX5_hangs 30 = .ok (.getfield 90, 3) := by decide +kernel
theorem dX5_hangs_33 : decode cX5_hangs 33 = .ok (.iload_n 2, 1) := by decide +kernel
theorem dX5_hangs_34 : decode cX5_hangs 34 = .ok (.iconst 1, 1) := by decide +kernel
theorem dX5_hangs_35 : decode cX5_hangs 35 = .ok (.aload_n 0, 1) := by decide +kernel
theorem dX5_hangs_36 : decode cX5_hangs 36 = .ok (.iload_n 2, 1) := by decide +kernel
theorem dX5_hangs_37 : decode cX5_hangs 37 = .ok (.invokevirtual 157, 3) := by decide +kernel
theorem dX5_hangs_40 : decode cX5_hangs 40 = .ok (.ishl, 1) := by decide +kernel
theorem dX5_hangs_41 : decode cX5_hangs 41 = .ok (.iastore, 1) := by decide +kernel
theorem dX5_hangs_42 : decode cX5_hangs 42 = .ok (.iload_n 2, 1) := by decide +kernel
theorem dX5_hangs_43 : decode cX5_hangs 43 = .ok (.iconst 1, 1) := by decide +kernel
theorem dX5_hangs_44 : decode cX5_hangs 44 = .ok (.isub, 1) := by decide +kernel
theorem dX5_hangs_45 : decode cX5_hangs 45 = .ok (.iload_n 2, 1) := by decide +kernel
theorem dX5_hangs_46 : decode cX5_hangs 46 = .ok (.iand, 1) := by decide +kernel
theorem dX5_hangs_47 : decode cX5_hangs 47 = .ok (.istore_n 3, 1) := by decide +kernel
theorem dX5_hangs_48 : decode cX5_hangs 48 = .ok (.iload_n 3, 1) := by decide +kernel
theorem dX5_hangs_49 : decode cX5_hangs 49 = .ok (.ifCond .le 48, 3) := by decide +kernel
theorem dX5_hangs_52 : decode cX5_hangs 52 = .ok (.iload_n 3, 1) := by decide +kernel
theorem dX5_hangs_53 : decode cX5_hangs 53 = .ok (.iload_n 2, 1) := by decide +kernel
theorem dX5_hangs_54 : decode cX5_hangs 54 = .ok (.iand, 1) := by decide +kernel
theorem dX5_hangs_55 : decode cX5_hangs 55 = .ok (.iload_n 2, 1) := by decide +kernel
theorem dX5_hangs_56 : decode cX5_hangs 56 = .ok (.ineg, 1) := by decide +kernel
theorem dX5_hangs_57 : decode cX5_hangs 57 = .ok (.iand, 1) := by decide +kernel
theorem dX5_hangs_58 : decode cX5_hangs 58 = .ok (.ifCond .eq 30, 3) := by decide +kernel
theorem dX5_hangs_61 : decode cX5_hangs 61 = .ok (.aload_n 0, 1) := by decide +kernel
theorem dX5_hangs_62 : decode cX5_hangs 62 = .ok (.getfield 90, 3) := by decide +kernel
theorem dX5_hangs_65 : decode cX5_hangs 65 = .ok (.iload_n 2, 1) := by decide +kernel
theorem dX5_hangs_66 : decode cX5_hangs 66 = .ok (.dup2, 1) := by decide +kernel
theorem dX5_hangs_67 : decode cX5_hangs 67 = .ok (.iaload, 1) := by decide +kernel
theorem dX5_hangs_68 : decode cX5_hangs 68 = .ok (.aload_n 0, 1) := by decide +kernel
theorem dX5_hangs_69 : decode cX5_hangs 69 = .ok (.getfield 90, 3) := by decide +kernel
theorem dX5_hangs_72 : decode cX5_hangs 72 = .ok (.iload_n 3, 1) := by decide +kernel
theorem dX5_hangs_73 : decode cX5_hangs 73 = .ok (.iaload, 1) := by decide +kernel
theorem dX5_hangs_74 : decode cX5_hangs 74 = .ok (.iconst 1, 1) := by decide +kernel
theorem dX5_hangs_75 : decode cX5_hangs 75 = .ok (.aload_n 0, 1) := by decide +kernel
theorem dX5_hangs_76 : decode cX5_hangs 76 = .ok (.iload_n 2, 1) := by decide +kernel
theorem dX5_hangs_77 : decode cX5_hangs 77 = .ok (.iload_n 3, 1) := by decide +kernel
theorem dX5_hangs_78 : decode cX5_hangs 78 = .ok (.iconst (-1), 1) := by decide +kernel
theorem dX5_hangs_79 : decode cX5_hangs 79 = .ok (.ixor, 1) := by decide +kernel
theorem dX5_hangs_80 : decode cX5_hangs 80 = .ok (.iand, 1) := by decide +kernel
theorem dX5_hangs_81 : decode cX5_hangs 81 = .ok (.invokevirtual 157, 3) := by decide +kernel
theorem dX5_hangs_84 : decode cX5_hangs 84 = .ok (.ishl, 1) := by decide +kernel
theorem dX5_hangs_85 : decode cX5_hangs 85 = .ok (.imul, 1) := by decide +kernel
theorem dX5_hangs_86 : decode cX5_hangs 86 = .ok (.isub, 1) := by decide +kernel
theorem dX5_hangs_87 : decode cX5_hangs 87 = .ok (.iastore, 1) := by decide +kernel
theorem dX5_hangs_88 : decode cX5_hangs 88 = .ok (.iload_n 3, 1) := by decide +kernel
theorem dX5_hangs_89 : decode cX5_hangs 89 = .ok (.iconst 1, 1) := by decide +kernel
theorem dX5_hangs_90 : decode cX5_hangs 90 = .ok (.isub, 1) := by decide +kernel
theorem dX5_hangs_91 : decode cX5_hangs 91 = .ok (.iload_n 2, 1) := by decide +kernel
theorem dX5_hangs_92 : decode cX5_hangs 92 = .ok (.iand, 1) := by decide +kernel
theorem dX5_hangs_93 : decode cX5_hangs 93 = .ok (.istore_n 3, 1) := by decide +kernel
theorem dX5_hangs_94 : decode cX5_hangs 94 = .ok (.goto (-46), 3) := by decide +kernel
theorem dX5_hangs_97 : decode cX5_hangs 97 = .ok (.iinc 2 1, 3) := by decide +kernel
theorem dX5_hangs_100 : decode cX5_hangs 100 = .ok (.goto (-76), 3) := by decide +kernel
theorem dX5_hangs_103 : decode cX5_hangs 103 = .ok (.aload_n 0, 1) := by decide +kernel
theorem dX5_hangs_104 : decode cX5_hangs 104 = .ok (.getfield 90, 3) := by decide +kernel
theorem dX5_hangs_107 : decode cX5_hangs 107 = .ok (.iload_n 1, 1) := by decide +kernel
theorem dX5_hangs_108 : decode cX5_hangs 108 = .ok (.iaload, 1) := by decide +kernel
theorem dX5_hangs_109 : decode cX5_hangs 109 = .ok (.ireturn, 1) := by decide +kernel
theorem dX5_weigh_0 : decode cX5_weigh 0 = .ok (.aload_n 0, 1) := by decide +kernel
theorem dX5_weigh_1 : decode cX5_weigh 1 = .ok (.iconst 0, 1) := by decide +kernel
theorem dX5_weigh_2 : decode cX5_weigh 2 = .ok (.putfield 1, 3) := by decide +kernel
theorem dX5_weigh_5 : decode cX5_weigh 5 = .ok (.aload_n 0, 1) := by decide +kernel
theorem dX5_weigh_6 : decode cX5_weigh 6 = .ok (.iload_n 1, 1) := by decide +kernel
theorem dX5_weigh_7 : decode cX5_weigh 7 = .ok (.invokevirtual 160, 3) := by decide +kernel
theorem dX5_weigh_10 : decode cX5_weigh 10 = .ok (.ifCond .eq 26, 3) := by decide +kernel
theorem dX5_weigh_13 : decode cX5_weigh 13 = .ok (.iload_n 2, 1) := by decide +kernel
theorem dX5_weigh_14 : decode cX5_weigh 14 = .ok (.iconst 0, 1) := by decide +kernel
theorem dX5_weigh_15 : decode cX5_weigh 15 = .ok (.sipush 999, 3) := by decide +kernel
theorem dX5_weigh_18 : decode cX5_weigh 18 = .ok (.invokestatic 99, 3) := by decide +kernel
theorem dX5_weigh_21 : decode cX5_weigh 21 = .ok (.ifCond .eq 15, 3) := by decide +kernel
theorem dX5_weigh_24 : decode cX5_weigh 24 = .ok (.aload_n 0, 1) := by decide +kernel
theorem dX5_weigh_25 : decode cX5_weigh 25 = .ok (.getfield 56, 3) := by decide +kernel
theorem dX5_weigh_28 : decode cX5_weigh 28 = .ok (.iconst 1, 1) := by decide +kernel
theorem dX5_weigh_29 : decode cX5_weigh 29 = .ok (.iload_n 1, 1) := by decide +kernel
theorem dX5_weigh_30 : decode cX5_weigh 30 = .ok (.iadd, 1) := by decide +kernel
theorem dX5_weigh_31 : decode cX5_weigh 31 = .ok (.iaload, 1) := by decide +kernel
theorem dX5_weigh_32 : decode cX5_weigh 32 = .ok (.iload_n 2, 1) := by decide +kernel
theorem dX5_weigh_33 : decode cX5_weigh 33 = .ok (.if_icmp .ne 5, 3) := by decide +kernel
theorem dX5_weigh_36 : decode cX5_weigh 36 = .ok (.iconst (-1), 1) := by decide +kernel
theorem dX5_weigh_37 : decode cX5_weigh 37 = .ok (.ireturn, 1) := by decide +kernel
theorem dX5_weigh_38 : decode cX5_weigh 38 = .ok (.aload_n 0, 1) := by decide +kernel
theorem dX5_weigh_39 : decode cX5_weigh 39 = .ok (.invokevirtual 168, 3) := by decide +kernel
theorem dX5_weigh_42 : decode cX5_weigh 42 = .ok (.aload_n 0, 1) := by decide +kernel
theorem dX5_weigh_43 : decode cX5_weigh 43 = .ok (.getfield 56, 3) := by decide +kernel
theorem dX5_weigh_46 : decode cX5_weigh 46 = .ok (.iconst 1, 1) := by decide +kernel
theorem dX5_weigh_47 : decode cX5_weigh 47 = .ok (.iload_n 1, 1) := by decide +kernel
theorem dX5_weigh_48 : decode cX5_weigh 48 = .ok (.iadd, 1) := by decide +kernel
theorem dX5_weigh_49 : decode cX5_weigh 49 = .ok (.iaload, 1) := by decide +kernel
theorem dX5_weigh_50 : decode cX5_weigh 50 = .ok (.istore_n 3, 1) := by decide +kernel
theorem dX5_weigh_51 : decode cX5_weigh 51 = .ok (.aload_n 0, 1) := by decide +kernel
theorem dX5_weigh_52 : decode cX5_weigh 52 = .ok (.getfield 56, 3) := by decide +kernel
theorem dX5_weigh_55 : decode cX5_weigh 55 = .ok (.iconst 1, 1) := by decide +kernel
theorem dX5_weigh_56 : decode cX5_weigh 56 = .ok (.iload_n 1, 1) := by decide +kernel
theorem dX5_weigh_57 : decode cX5_weigh 57 = .ok (.iadd, 1) := by decide +kernel
theorem dX5_weigh_58 : decode cX5_weigh 58 = .ok (.iload_n 2, 1) := by decide +kernel
theorem dX5_weigh_59 : decode cX5_weigh 59 = .ok (.iastore, 1) := by decide +kernel
theorem dX5_weigh_60 : decode cX5_weigh 60 = .ok (.iload_n 3, 1) := by decide +kernel
theorem dX5_weigh_61 : decode cX5_weigh 61 = .ok (.ireturn, 1) := by decide +kernel
theorem dX5_join_0 : decode cX5_join 0 = .ok (.aload_n 0, 1) := by decide +kernel
theorem dX5_join_1 : decode cX5_join 1 = .ok (.iconst 0, 1) := by decide +kernel
theorem dX5_join_2 : decode cX5_join 2 = .ok (.putfield 1, 3) := by decide +kernel
theorem dX5_join_5 : decode cX5_join 5 = .ok (.aload_n 0, 1) := by decide +kernel
theorem dX5_join_6 : decode cX5_join 6 = .ok (.iload_n 1, 1) := by decide +kernel
theorem dX5_join_7 : decode cX5_join 7 = .ok (.invokevirtual 163, 3) := by decide +kernel
theorem dX5_join_10 : decode cX5_join 10 = .ok (.ifCond .eq 34, 3) := by decide +kernel
theorem dX5_join_13 : decode cX5_join 13 = .ok (.aload_n 0, 1) := by decide +kernel
theorem dX5_join_14 : decode cX5_join 14 = .ok (.iload_n 2, 1) := by decide +kernel
theorem dX5_join_15 : decode cX5_join 15 = .ok (.invokevirtual 163, 3) := by decide +kernel
theorem dX5_join_18 : decode cX5_join 18 = .ok (.ifCond .eq 26, 3) := by decide +kernel
theorem dX5_join_21 : decode cX5_join 21 = .ok (.iload_n 1, 1) := by decide +kernel
theorem dX5_join_22 : decode cX5_join 22 = .ok (.iload_n 2, 1) := by decide +kernel
theorem dX5_join_23 : decode cX5_join 23 = .ok (.if_icmp .eq 21, 3) := by decide +kernel
theorem dX5_join_26 : decode cX5_join 26 = .ok (.aload_n 0, 1) := by decide +kernel
theorem dX5_join_27 : decode cX5_join 27 = .ok (.getfield 56, 3) := by decide +kernel
theorem dX5_join_30 : decode cX5_join 30 = .ok (.sipush 257, 3) := by decide +kernel
theorem dX5_join_33 : decode cX5_join 33 = .ok (.iload_n 1, 1) := by decide +kernel
theorem dX5_join_34 : decode cX5_join 34 = .ok (.iadd, 1) := by decide +kernel
theorem dX5_join_35 : decode cX5_join 35 = .ok (.iaload, 1) := by decide +kernel
theorem dX5_join_36 : decode cX5_join 36 = .ok (.iload_n 2, 1) := by decide +kernel
theorem dX5_join_37 : decode cX5_join 37 = .ok (.invokestatic 103, 3) := by decide +kernel
theorem dX5_join_40 : decode cX5_join 40 = .ok (.iload_n 3, 1) := by decide +kernel
theorem dX5_join_41 : decode cX5_join 41 = .ok (.if_icmp .ne 5, 3) := by decide +kernel
theorem dX5_join_44 : decode cX5_join 44 = .ok (.iconst (-1), 1) := by decide +kernel
theorem dX5_join_45 : decode cX5_join 45 = .ok (.ireturn, 1) := by decide +kernel
theorem dX5_join_46 : decode cX5_join 46 = .ok (.aload_n 0, 1) := by decide +kernel
theorem dX5_join_47 : decode cX5_join 47 = .ok (.invokevirtual 168, 3) := by decide +kernel
theorem dX5_join_50 : decode cX5_join 50 = .ok (.aload_n 0, 1) := by decide +kernel
theorem dX5_join_51 : decode cX5_join 51 = .ok (.getfield 56, 3) := by decide +kernel
theorem dX5_join_54 : decode cX5_join 54 = .ok (.iload_n 1, 1) := by decide +kernel
theorem dX5_join_55 : decode cX5_join 55 = .ok (.iload_n 2, 1) := by decide +kernel
theorem dX5_join_56 : decode cX5_join 56 = .ok (.invokestatic 117, 3) := by decide +kernel
theorem dX5_join_59 : decode cX5_join 59 = .ok (.aload_n 0, 1) := by decide +kernel
theorem dX5_join_60 : decode cX5_join 60 = .ok (.aload_n 0, 1) := by decide +kernel
theorem dX5_join_61 : decode cX5_join 61 = .ok (.invokevirtual 151, 3) := by decide +kernel
theorem dX5_join_64 : decode cX5_join 64 = .ok (.invokevirtual 157, 3) := by decide +kernel
theorem dX5_join_67 : decode cX5_join 67 = .ok (.ireturn, 1) := by decide +kernel
theorem dX5_swapped_0 : decode cX5_swapped 0 = .ok (.iload_n 0, 1) := by decide +kernel
theorem dX5_swapped_1 : decode cX5_swapped 1 = .ok (.iload_n 1, 1) := by decide +kernel
theorem dX5_swapped_2 : decode cX5_swapped 2 = .ok (.invokestatic 103, 3) := by decide +kernel
theorem dX5_swapped_5 : decode cX5_swapped 5 = .ok (.iload_n 0, 1) := by decide +kernel
theorem dX5_swapped_6 : decode cX5_swapped 6 = .ok (.iload_n 2, 1) := by decide +kernel
theorem dX5_swapped_7 : decode cX5_swapped 7 = .ok (.invokestatic 103, 3) := by decide +kernel
theorem dX5_swapped_10 : decode cX5_swapped 10 = .ok (.if_icmp .ne 7, 3) := by decide +kernel
theorem dX5_swapped_13 : decode cX5_swapped 13 = .ok (.iload_n 0, 1) := by decide +kernel
theorem dX5_swapped_14 : decode cX5_swapped 14 = .ok (.goto 12, 3) := by decide +kernel
theorem dX5_swapped_17 : decode cX5_swapped 17 = .ok (.iload_n 0, 1) := by decide +kernel
theorem dX5_swapped_18 : decode cX5_swapped 18 = .ok (.iconst 1, 1) := by decide +kernel
theorem dX5_swapped_19 : decode cX5_swapped 19 = .ok (.iload_n 1, 1) := by decide +kernel
theorem dX5_swapped_20 : decode cX5_swapped 20 = .ok (.ishl, 1) := by decide +kernel
theorem dX5_swapped_21 : decode cX5_swapped 21 = .ok (.iconst 1, 1) := by decide +kernel
theorem dX5_swapped_22 : decode cX5_swapped 22 = .ok (.iload_n 2, 1) := by decide +kernel
theorem dX5_swapped_23 : decode cX5_swapped 23 = .ok (.ishl, 1) := by decide +kernel
theorem dX5_swapped_24 : decode cX5_swapped 24 = .ok (.ior, 1) := by decide +kernel
theorem dX5_swapped_25 : decode cX5_swapped 25 = .ok (.ixor, 1) := by decide +kernel
theorem dX5_swapped_26 : decode cX5_swapped 26 = .ok (.ireturn, 1) := by decide +kernel
theorem dX5_swaps_0 : decode cX5_swaps 0 = .ok (.iconst 0, 1) := by decide +kernel
theorem dX5_swaps_1 : decode cX5_swaps 1 = .ok (.istore 4, 2) := by decide +kernel
theorem dX5_swaps_3 : decode cX5_swaps 3 = .ok (.iload 4, 2) := by decide +kernel
theorem dX5_swaps_5 : decode cX5_swaps 5 = .ok (.aload_n 0, 1) := by decide +kernel
theorem dX5_swaps_6 : decode cX5_swaps 6 = .ok (.invokevirtual 151, 3) := by decide +kernel
theorem dX5_swaps_9 : decode cX5_swaps 9 = .ok (.if_icmp .gt 25, 3) := by decide +kernel
theorem dX5_swaps_12 : decode cX5_swaps 12 = .ok (.aload_n 0, 1) := by decide +kernel
theorem dX5_swaps_13 : decode cX5_swaps 13 = .ok (.getfield 75, 3) := by decide +kernel
theorem dX5_swaps_16 : decode cX5_swaps 16 = .ok (.iload 4, 2) := by decide +kernel
theorem dX5_swaps_18 : decode cX5_swaps 18 = .ok (.aload_n 0, 1) := by decide +kernel
theorem dX5_swaps_19 : decode cX5_swaps 19 = .ok (.getfield 56, 3) := by decide +kernel
theorem dX5_swaps_22 : decode cX5_swaps 22 = .ok (.iload_n 1, 1) := by decide +kernel
theorem dX5_swaps_23 : decode cX5_swaps 23 = .ok (.iload 4, 2) := by decide +kernel
theorem dX5_swaps_25 : decode cX5_swaps 25 = .ok (.iadd, 1) := by decide +kernel
theorem dX5_swaps_26 : decode cX5_swaps 26 = .ok (.iaload, 1) := by decide +kernel
theorem dX5_swaps_27 : decode cX5_swaps 27 = .ok (.iastore, 1) := by decide +kernel
theorem dX5_swaps_28 : decode cX5_swaps 28 = .ok (.iinc 4 1, 3) := by decide +kernel
theorem dX5_swaps_31 : decode cX5_swaps 31 = .ok (.goto (-28), 3) := by decide +kernel
theorem dX5_swaps_34 : decode cX5_swaps 34 = .ok (.iconst 0, 1) := by decide +kernel
theorem dX5_swaps_35 : decode cX5_swaps 35 = .ok (.istore 4, 2) := by decide +kernel
theorem dX5_swaps_37 : decode cX5_swaps 37 = .ok (.iload 4, 2) := by decide +kernel
theorem dX5_swaps_39 : decode cX5_swaps 39 = .ok (.aload_n 0, 1) := by decide +kernel
theorem dX5_swaps_40 : decode cX5_swaps 40 = .ok (.invokevirtual 151, 3) := by decide +kernel
theorem dX5_swaps_43 : decode cX5_swaps 43 = .ok (.if_icmp .gt 30, 3) := by decide +kernel
theorem dX5_swaps_46 : decode cX5_swaps 46 = .ok (.aload_n 0, 1) := by decide +kernel
theorem dX5_swaps_47 : decode cX5_swaps 47 = .ok (.getfield 56, 3) := by decide +kernel
theorem dX5_swaps_50 : decode cX5_swaps 50 = .ok (.iload_n 1, 1) := by decide +kernel
theorem dX5_swaps_51 : decode cX5_swaps 51 = .ok (.iload 4, 2) := by decide +kernel
theorem dX5_swaps_53 : decode cX5_swaps 53 = .ok (.iload_n 2, 1) := by decide +kernel
theorem dX5_swaps_54 : decode cX5_swaps 54 = .ok (.iload_n 3, 1) := by decide +kernel
theorem dX5_swaps_55 : decode cX5_swaps 55 = .ok (.invokestatic 244, 3) := by decide +kernel
theorem dX5_swaps_58 : decode cX5_swaps 58 = .ok (.iadd, 1) := by decide +kernel
theorem dX5_swaps_59 : decode cX5_swaps 59 = .ok (.aload_n 0, 1) := by decide +kernel
theorem dX5_swaps_60 : decode cX5_swaps 60 = .ok (.getfield 75, 3) := by decide +kernel
theorem dX5_swaps_63 : decode cX5_swaps 63 = .ok (.iload 4, 2) := by decide +kernel
theorem dX5_swaps_65 : decode cX5_swaps 65 = .ok (.iaload, 1) := by decide +kernel
theorem dX5_swaps_66 : decode cX5_swaps 66 = .ok (.iastore, 1) := by decide +kernel
theorem dX5_swaps_67 : decode cX5_swaps 67 = .ok (.iinc 4 1, 3) := by decide +kernel
theorem dX5_swaps_70 : decode cX5_swaps 70 = .ok (.goto (-33), 3) := by decide +kernel
theorem dX5_swaps_73 : decode cX5_swaps 73 = .ok (.return_, 1) := by decide +kernel
theorem dX5_name_0 : decode cX5_name 0 = .ok (.aload_n 0, 1) := by decide +kernel
theorem dX5_name_1 : decode cX5_name 1 = .ok (.iconst 0, 1) := by decide +kernel
theorem dX5_name_2 : decode cX5_name 2 = .ok (.putfield 1, 3) := by decide +kernel
theorem dX5_name_5 : decode cX5_name 5 = .ok (.aload_n 0, 1) := by decide +kernel
theorem dX5_name_6 : decode cX5_name 6 = .ok (.iload_n 1, 1) := by decide +kernel
theorem dX5_name_7 : decode cX5_name 7 = .ok (.invokevirtual 163, 3) := by decide +kernel
theorem dX5_name_10 : decode cX5_name 10 = .ok (.ifCond .eq 16, 3) := by decide +kernel
theorem dX5_name_13 : decode cX5_name 13 = .ok (.aload_n 0, 1) := by decide +kernel
theorem dX5_name_14 : decode cX5_name 14 = .ok (.iload_n 2, 1) := by decide +kernel
theorem dX5_name_15 : decode cX5_name 15 = .ok (.invokevirtual 163, 3) := by decide +kernel
theorem dX5_name_18 : decode cX5_name 18 = .ok (.ifCond .eq 8, 3) := by decide +kernel
theorem dX5_name_21 : decode cX5_name 21 = .ok (.iload_n 1, 1) := by decide +kernel
theorem dX5_name_22 : decode cX5_name 22 = .ok (.iload_n 2, 1) := by decide +kernel
theorem dX5_name_23 : decode cX5_name 23 = .ok (.if_icmp .ne 5, 3) := by decide +kernel
theorem dX5_name_26 : decode cX5_name 26 = .ok (.iconst (-1), 1) := by decide +kernel
theorem dX5_name_27 : decode cX5_name 27 = .ok (.ireturn, 1) := by decide +kernel
theorem dX5_name_28 : decode cX5_name 28 = .ok (.aload_n 0, 1) := by decide +kernel
theorem dX5_name_29 : decode cX5_name 29 = .ok (.invokevirtual 168, 3) := by decide +kernel
theorem dX5_name_32 : decode cX5_name 32 = .ok (.iconst 0, 1) := by decide +kernel
theorem dX5_name_33 : decode cX5_name 33 = .ok (.istore_n 3, 1) := by decide +kernel
theorem dX5_name_34 : decode cX5_name 34 = .ok (.iconst 0, 1) := by decide +kernel
theorem dX5_name_35 : decode cX5_name 35 = .ok (.istore 4, 2) := by decide +kernel
theorem dX5_name_37 : decode cX5_name 37 = .ok (.iload 4, 2) := by decide +kernel
theorem dX5_name_39 : decode cX5_name 39 = .ok (.aload_n 0, 1) := by decide +kernel
theorem dX5_name_40 : decode cX5_name 40 = .ok (.invokevirtual 151, 3) := by decide +kernel
theorem dX5_name_43 : decode cX5_name 43 = .ok (.if_icmp .gt 36, 3) := by decide +kernel
theorem dX5_name_46 : decode cX5_name 46 = .ok (.aload_n 0, 1) := by decide +kernel
theorem dX5_name_47 : decode cX5_name 47 = .ok (.iload 4, 2) := by decide +kernel
theorem dX5_name_49 : decode cX5_name 49 = .ok (.invokevirtual 220, 3) := by decide +kernel
theorem dX5_name_52 : decode cX5_name 52 = .ok (.ifCond .eq 21, 3) := by decide +kernel
theorem dX5_name_55 : decode cX5_name 55 = .ok (.iload 4, 2) := by decide +kernel
theorem dX5_name_57 : decode cX5_name 57 = .ok (.iload_n 1, 1) := by decide +kernel
theorem dX5_name_58 : decode cX5_name 58 = .ok (.invokestatic 103, 3) := by decide +kernel
theorem dX5_name_61 : decode cX5_name 61 = .ok (.iload 4, 2) := by decide +kernel
theorem dX5_name_63 : decode cX5_name 63 = .ok (.iload_n 2, 1) := by decide +kernel
theorem dX5_name_64 : decode cX5_name 64 = .ok (.invokestatic 103, 3) := by decide +kernel
theorem dX5_name_67 : decode cX5_name 67 = .ok (.if_icmp .eq 6, 3) := by decide +kernel
theorem dX5_name_70 : decode cX5_name 70 = .ok (.iinc 3 1, 3) := by decide +kernel
theorem dX5_name_73 : decode cX5_name 73 = .ok (.iinc 4 1, 3) := by decide +kernel
theorem dX5_name_76 : decode cX5_name 76 = .ok (.goto (-39), 3) := by decide +kernel
theorem dX5_name_79 : decode cX5_name 79 = .ok (.aload_n 0, 1) := by decide +kernel
theorem dX5_name_80 : decode cX5_name 80 = .ok (.iconst 1, 1) := by decide +kernel
theorem dX5_name_81 : decode cX5_name 81 = .ok (.iload_n 1, 1) := by decide +kernel
theorem dX5_name_82 : decode cX5_name 82 = .ok (.iload_n 2, 1) := by decide +kernel
theorem dX5_name_83 : decode cX5_name 83 = .ok (.invokevirtual 247, 3) := by decide +kernel
theorem dX5_name_86 : decode cX5_name 86 = .ok (.iconst 0, 1) := by decide +kernel
theorem dX5_name_87 : decode cX5_name 87 = .ok (.istore 4, 2) := by decide +kernel
theorem dX5_name_89 : decode cX5_name 89 = .ok (.iload 4, 2) := by decide +kernel
theorem dX5_name_91 : decode cX5_name 91 = .ok (.iconst 4, 1) := by decide +kernel
theorem dX5_name_92 : decode cX5_name 92 = .ok (.if_icmp .ge 25, 3) := by decide +kernel
theorem dX5_name_95 : decode cX5_name 95 = .ok (.aload_n 0, 1) := by decide +kernel
theorem dX5_name_96 : decode cX5_name 96 = .ok (.sipush 265, 3) := by decide +kernel
theorem dX5_name_99 : decode cX5_name 99 = .ok (.sipush 256, 3) := by decide +kernel
theorem dX5_name_102 : decode cX5_name 102 = .ok (.iload 4, 2) := by decide +kernel
theorem dX5_name_104 : decode cX5_name 104 = .ok (.imul, 1) := by decide +kernel
theorem dX5_name_105 : decode cX5_name 105 = .ok (.iadd, 1) := by decide +kernel
theorem dX5_name_106 : decode cX5_name 106 = .ok (.iload_n 1, 1) := by decide +kernel
theorem dX5_name_107 : decode cX5_name 107 = .ok (.iload_n 2, 1) := by decide +kernel
theorem dX5_name_108 : decode cX5_name 108 = .ok (.invokevirtual 247, 3) := by decide +kernel
theorem dX5_name_111 : decode cX5_name 111 = .ok (.iinc 4 1, 3) := by decide +kernel
theorem dX5_name_114 : decode cX5_name 114 = .ok (.goto (-25), 3) := by decide +kernel
theorem dX5_name_117 : decode cX5_name 117 = .ok (.iconst 0, 1) := by decide +kernel
theorem dX5_name_118 : decode cX5_name 118 = .ok (.istore 4, 2) := by decide +kernel
theorem dX5_name_120 : decode cX5_name 120 = .ok (.iload 4, 2) := by decide +kernel
theorem dX5_name_122 : decode cX5_name 122 = .ok (.aload_n 0, 1) := by decide +kernel
theorem dX5_name_123 : decode cX5_name 123 = .ok (.invokevirtual 148, 3) := by decide +kernel
theorem dX5_name_126 : decode cX5_name 126 = .ok (.if_icmp .ge 27, 3) := by decide +kernel
theorem dX5_name_129 : decode cX5_name 129 = .ok (.aload_n 0, 1) := by decide +kernel
theorem dX5_name_130 : decode cX5_name 130 = .ok (.getfield 75, 3) := by decide +kernel
theorem dX5_name_133 : decode cX5_name 133 = .ok (.iload 4, 2) := by decide +kernel
theorem dX5_name_135 : decode cX5_name 135 = .ok (.aload_n 0, 1) := by decide +kernel
theorem dX5_name_136 : decode cX5_name 136 = .ok (.getfield 56, 3) := by decide +kernel
theorem dX5_name_139 : decode cX5_name 139 = .ok (.sipush 257, 3) := by decide +kernel
theorem dX5_name_142 : decode cX5_name 142 = .ok (.iload 4, 2) := by decide +kernel
theorem dX5_name_144 : decode cX5_name 144 = .ok (.iadd, 1) := by decide +kernel
theorem dX5_name_145 : decode cX5_name 145 = .ok (.iaload, 1) := by decide +kernel
theorem dX5_name_146 : decode cX5_name 146 = .ok (.iastore, 1) := by decide +kernel
theorem dX5_name_147 : decode cX5_name 147 = .ok (.iinc 4 1, 3) := by decide +kernel
theorem dX5_name_150 : decode cX5_name 150 = .ok (.goto (-30), 3) := by decide +kernel
theorem dX5_name_153 : decode cX5_name 153 = .ok (.iconst 0, 1) := by decide +kernel
theorem dX5_name_154 : decode cX5_name 154 = .ok (.istore 4, 2) := by decide +kernel
theorem dX5_name_156 : decode cX5_name 156 = .ok (.iload 4, 2) := by decide +kernel
theorem dX5_name_158 : decode cX5_name 158 = .ok (.aload_n 0, 1) := by decide +kernel
theorem dX5_name_159 : decode cX5_name 159 = .ok (.invokevirtual 148, 3) := by decide +kernel
theorem dX5_name_162 : decode cX5_name 162 = .ok (.if_icmp .ge 52, 3) := by decide +kernel
theorem dX5_name_165 : decode cX5_name 165 = .ok (.aload_n 0, 1) := by decide +kernel
theorem dX5_name_166 : decode cX5_name 166 = .ok (.getfield 56, 3) := by decide +kernel
theorem dX5_name_169 : decode cX5_name 169 = .ok (.sipush 257, 3) := by decide +kernel
theorem dX5_name_172 : decode cX5_name 172 = .ok (.iload 4, 2) := by decide +kernel
theorem dX5_name_174 : decode cX5_name 174 = .ok (.iload_n 1, 1) := by decide +kernel
theorem dX5_name_175 : decode cX5_name 175 = .ok (.if_icmp .ne 7, 3) := by decide +kernel
theorem dX5_name_178 : decode cX5_name 178 = .ok (.iload_n 2, 1) := by decide +kernel
theorem dX5_name_179 : decode cX5_name 179 = .ok (.goto 15, 3) := by decide +kernel
theorem dX5_name_182 : decode cX5_name 182 = .ok (.iload 4, 2) := by decide +kernel
theorem dX5_name_184 : decode cX5_name 184 = .ok (.iload_n 2, 1) := by decide +kernel
theorem dX5_name_185 : decode cX5_name 185 = .ok (.if_icmp .ne 7, 3) := by decide +kernel
theorem dX5_name_188 : decode cX5_name 188 = .ok (.iload_n 1, 1) := by decide +kernel
theorem dX5_name_189 : decode cX5_name 189 = .ok (.goto 5, 3) := by decide +kernel
theorem dX5_name_192 : decode cX5_name 192 = .ok (.iload 4, 2) := by decide +kernel
theorem dX5_name_194 : decode cX5_name 194 = .ok (.iadd, 1) := by decide +kernel
theorem dX5_name_195 : decode cX5_name 195 = .ok (.aload_n 0, 1) := by decide +kernel
theorem dX5_name_196 : decode cX5_name 196 = .ok (.getfield 75, 3) := by decide +kernel
theorem dX5_name_199 : decode cX5_name 199 = .ok (.iload 4, 2) := by decide +kernel
theorem dX5_name_201 : decode cX5_name 201 = .ok (.iaload, 1) := by decide +kernel
theorem dX5_name_202 : decode cX5_name 202 = .ok (.iload_n 1, 1) := by decide +kernel
theorem dX5_name_203 : decode cX5_name 203 = .ok (.iload_n 2, 1) := by decide +kernel
theorem dX5_name_204 : decode cX5_name 204 = .ok (.invokestatic 244, 3) := by decide +kernel
theorem dX5_name_207 : decode cX5_name 207 = .ok (.iastore, 1) := by decide +kernel
theorem dX5_name_208 : decode cX5_name 208 = .ok (.iinc 4 1, 3) := by decide +kernel
theorem dX5_name_211 : decode cX5_name 211 = .ok (.goto (-55), 3) := by decide +kernel
theorem dX5_name_214 : decode cX5_name 214 = .ok (.iload_n 3, 1) := by decide +kernel
theorem dX5_name_215 : decode cX5_name 215 = .ok (.ireturn, 1) := by decide +kernel
theorem dX5_draw_0 : decode cX5_draw 0 = .ok (.aload_n 0, 1) := by decide +kernel
theorem dX5_draw_1 : decode cX5_draw 1 = .ok (.aload_n 0, 1) := by decide +kernel
theorem dX5_draw_2 : decode cX5_draw 2 = .ok (.getfield 251, 3) := by decide +kernel
theorem dX5_draw_5 : decode cX5_draw 5 = .ok (.ldc 254, 2) := by decide +kernel
theorem dX5_draw_7 : decode cX5_draw 7 = .ok (.imul, 1) := by decide +kernel
theorem dX5_draw_8 : decode cX5_draw 8 = .ok (.sipush 12345, 3) := by decide +kernel
theorem dX5_draw_11 : decode cX5_draw 11 = .ok (.iadd, 1) := by decide +kernel
theorem dX5_draw_12 : decode cX5_draw 12 = .ok (.putfield 251, 3) := by decide +kernel
theorem dX5_draw_15 : decode cX5_draw 15 = .ok (.aload_n 0, 1) := by decide +kernel
theorem dX5_draw_16 : decode cX5_draw 16 = .ok (.getfield 251, 3) := by decide +kernel
theorem dX5_draw_19 : decode cX5_draw 19 = .ok (.bipush 8, 2) := by decide +kernel
theorem dX5_draw_21 : decode cX5_draw 21 = .ok (.iushr, 1) := by decide +kernel
theorem dX5_draw_22 : decode cX5_draw 22 = .ok (.iload_n 1, 1) := by decide +kernel
theorem dX5_draw_23 : decode cX5_draw 23 = .ok (.irem, 1) := by decide +kernel
theorem dX5_draw_24 : decode cX5_draw 24 = .ok (.ireturn, 1) := by decide +kernel
theorem dX5_does_0 : decode cX5_does 0 = .ok (.aload_n 0, 1) := by decide +kernel
theorem dX5_does_1 : decode cX5_does 1 = .ok (.iconst 3, 1) := by decide +kernel
theorem dX5_does_2 : decode cX5_does 2 = .ok (.invokevirtual 255, 3) := by decide +kernel
theorem dX5_does_5 : decode cX5_does 5 = .ok (.istore_n 1, 1) := by decide +kernel
theorem dX5_does_6 : decode cX5_does 6 = .ok (.iload_n 1, 1) := by decide +kernel
theorem dX5_does_7 : decode cX5_does 7 = .ok (.ifCond .ne 36, 3) := by decide +kernel
theorem dX5_does_10 : decode cX5_does 10 = .ok (.aload_n 0, 1) := by decide +kernel
theorem dX5_does_11 : decode cX5_does 11 = .ok (.aload_n 0, 1) := by decide +kernel
theorem dX5_does_12 : decode cX5_does 12 = .ok (.invokevirtual 148, 3) := by decide +kernel
theorem dX5_does_15 : decode cX5_does 15 = .ok (.invokevirtual 255, 3) := by decide +kernel
theorem dX5_does_18 : decode cX5_does 18 = .ok (.istore_n 2, 1) := by decide +kernel
theorem dX5_does_19 : decode cX5_does 19 = .ok (.aload_n 0, 1) := by decide +kernel
theorem dX5_does_20 : decode cX5_does 20 = .ok (.aload_n 0, 1) := by decide +kernel
theorem dX5_does_21 : decode cX5_does 21 = .ok (.invokevirtual 148, 3) := by decide +kernel
theorem dX5_does_24 : decode cX5_does 24 = .ok (.invokevirtual 255, 3) := by decide +kernel
theorem dX5_does_27 : decode cX5_does 27 = .ok (.istore_n 3, 1) := by decide +kernel
theorem dX5_does_28 : decode cX5_does 28 = .ok (.iload_n 2, 1) := by decide +kernel
theorem dX5_does_29 : decode cX5_does 29 = .ok (.iload_n 3, 1) := by decide +kernel
theorem dX5_does_30 : decode cX5_does 30 = .ok (.if_icmp .eq 12, 3) := by decide +kernel
theorem dX5_does_33 : decode cX5_does 33 = .ok (.aload_n 0, 1) := by decide +kernel
theorem dX5_does_34 : decode cX5_does 34 = .ok (.getfield 56, 3) := by decide +kernel
theorem dX5_does_37 : decode cX5_does 37 = .ok (.iload_n 2, 1) := by decide +kernel
theorem dX5_does_38 : decode cX5_does 38 = .ok (.iload_n 3, 1) := by decide +kernel
theorem dX5_does_39 : decode cX5_does 39 = .ok (.invokestatic 117, 3) := by decide +kernel
theorem dX5_does_42 : decode cX5_does 42 = .ok (.return_, 1) := by decide +kernel
theorem dX5_does_43 : decode cX5_does 43 = .ok (.aload_n 0, 1) := by decide +kernel
theorem dX5_does_44 : decode cX5_does 44 = .ok (.aload_n 0, 1) := by decide +kernel
theorem dX5_does_45 : decode cX5_does 45 = .ok (.invokevirtual 151, 3) := by decide +kernel
theorem dX5_does_48 : decode cX5_does 48 = .ok (.iconst 1, 1) := by decide +kernel
theorem dX5_does_49 : decode cX5_does 49 = .ok (.iadd, 1) := by decide +kernel
theorem dX5_does_50 : decode cX5_does 50 = .ok (.invokevirtual 255, 3) := by decide +kernel
theorem dX5_does_53 : decode cX5_does 53 = .ok (.istore_n 2, 1) := by decide +kernel
theorem dX5_does_54 : decode cX5_does 54 = .ok (.aload_n 0, 1) := by decide +kernel
theorem dX5_does_55 : decode cX5_does 55 = .ok (.getfield 56, 3) := by decide +kernel
theorem dX5_does_58 : decode cX5_does 58 = .ok (.iconst 1, 1) := by decide +kernel
theorem dX5_does_59 : decode cX5_does 59 = .ok (.iload_n 2, 1) := by decide +kernel
theorem dX5_does_60 : decode cX5_does 60 = .ok (.iadd, 1) := by decide +kernel
theorem dX5_does_61 : decode cX5_does 61 = .ok (.iload_n 1, 1) := by decide +kernel
theorem dX5_does_62 : decode cX5_does 62 = .ok (.iconst 1, 1) := by decide +kernel
theorem dX5_does_63 : decode cX5_does 63 = .ok (.if_icmp .ne 14, 3) := by decide +kernel
theorem dX5_does_66 : decode cX5_does 66 = .ok (.aload_n 0, 1) := by decide +kernel
theorem dX5_does_67 : decode cX5_does 67 = .ok (.bipush 100, 2) := by decide +kernel
theorem dX5_does_69 : decode cX5_does 69 = .ok (.invokevirtual 255, 3) := by decide +kernel
theorem dX5_does_72 : decode cX5_does 72 = .ok (.iconst 1, 1) := by decide +kernel
theorem dX5_does_73 : decode cX5_does 73 = .ok (.iadd, 1) := by decide +kernel
theorem dX5_does_74 : decode cX5_does 74 = .ok (.goto 4, 3) := by decide +kernel
theorem dX5_does_77 : decode cX5_does 77 = .ok (.iconst 0, 1) := by decide +kernel
theorem dX5_does_78 : decode cX5_does 78 = .ok (.iastore, 1) := by decide +kernel
theorem dX5_does_79 : decode cX5_does 79 = .ok (.return_, 1) := by decide +kernel
theorem dX5_drawn_0 : decode cX5_drawn 0 = .ok (.aload_n 0, 1) := by decide +kernel
theorem dX5_drawn_1 : decode cX5_drawn 1 = .ok (.iconst 0, 1) := by decide +kernel
theorem dX5_drawn_2 : decode cX5_drawn 2 = .ok (.putfield 1, 3) := by decide +kernel
theorem dX5_drawn_5 : decode cX5_drawn 5 = .ok (.iload_n 1, 1) := by decide +kernel
theorem dX5_drawn_6 : decode cX5_drawn 6 = .ok (.iconst 1, 1) := by decide +kernel
theorem dX5_drawn_7 : decode cX5_drawn 7 = .ok (.bipush 60, 2) := by decide +kernel
theorem dX5_drawn_9 : decode cX5_drawn 9 = .ok (.invokestatic 99, 3) := by decide +kernel
theorem dX5_drawn_12 : decode cX5_drawn 12 = .ok (.ifCond .ne 5, 3) := by decide +kernel
theorem dX5_drawn_15 : decode cX5_drawn 15 = .ok (.iconst (-1), 1) := by decide +kernel
theorem dX5_drawn_16 : decode cX5_drawn 16 = .ok (.ireturn, 1) := by decide +kernel
theorem dX5_drawn_17 : decode cX5_drawn 17 = .ok (.aload_n 0, 1) := by decide +kernel
theorem dX5_drawn_18 : decode cX5_drawn 18 = .ok (.invokevirtual 148, 3) := by decide +kernel
theorem dX5_drawn_21 : decode cX5_drawn 21 = .ok (.ifCond .ne 5, 3) := by decide +kernel
theorem dX5_drawn_24 : decode cX5_drawn 24 = .ok (.iconst 0, 1) := by decide +kernel
theorem dX5_drawn_25 : decode cX5_drawn 25 = .ok (.ireturn, 1) := by decide +kernel
theorem dX5_drawn_26 : decode cX5_drawn 26 = .ok (.aload_n 0, 1) := by decide +kernel
theorem dX5_drawn_27 : decode cX5_drawn 27 = .ok (.invokevirtual 168, 3) := by decide +kernel
theorem dX5_drawn_30 : decode cX5_drawn 30 = .ok (.aload_n 0, 1) := by decide +kernel
theorem dX5_drawn_31 : decode cX5_drawn 31 = .ok (.iload_n 2, 1) := by decide +kernel
theorem dX5_drawn_32 : decode cX5_drawn 32 = .ok (.putfield 251, 3) := by decide +kernel
theorem dX5_drawn_35 : decode cX5_drawn 35 = .ok (.iconst 0, 1) := by decide +kernel
theorem dX5_drawn_36 : decode cX5_drawn 36 = .ok (.istore_n 3, 1) := by decide +kernel
theorem dX5_drawn_37 : decode cX5_drawn 37 = .ok (.iload_n 3, 1) := by decide +kernel
theorem dX5_drawn_38 : decode cX5_drawn 38 = .ok (.iload_n 1, 1) := by decide +kernel
theorem dX5_drawn_39 : decode cX5_drawn 39 = .ok (.if_icmp .ge 13, 3) := by decide +kernel
theorem dX5_drawn_42 : decode cX5_drawn 42 = .ok (.aload_n 0, 1) := by decide +kernel
theorem dX5_drawn_43 : decode cX5_drawn 43 = .ok (.invokevirtual 258, 3) := by decide +kernel
theorem dX5_drawn_46 : decode cX5_drawn 46 = .ok (.iinc 3 1, 3) := by decide +kernel
theorem dX5_drawn_49 : decode cX5_drawn 49 = .ok (.goto (-12), 3) := by decide +kernel
theorem dX5_drawn_52 : decode cX5_drawn 52 = .ok (.aload_n 0, 1) := by decide +kernel
theorem dX5_drawn_53 : decode cX5_drawn 53 = .ok (.invokevirtual 154, 3) := by decide +kernel
theorem dX5_drawn_56 : decode cX5_drawn 56 = .ok (.ireturn, 1) := by decide +kernel
theorem dX5_undo_0 : decode cX5_undo 0 = .ok (.aload_n 0, 1) := by decide +kernel
theorem dX5_undo_1 : decode cX5_undo 1 = .ok (.iconst 0, 1) := by decide +kernel
theorem dX5_undo_2 : decode cX5_undo 2 = .ok (.putfield 1, 3) := by decide +kernel
theorem dX5_undo_5 : decode cX5_undo 5 = .ok (.aload_n 0, 1) := by decide +kernel
theorem dX5_undo_6 : decode cX5_undo 6 = .ok (.getfield 145, 3) := by decide +kernel
theorem dX5_undo_9 : decode cX5_undo 9 = .ok (.ifCond .ne 5, 3) := by decide +kernel
theorem dX5_undo_12 : decode cX5_undo 12 = .ok (.iconst (-1), 1) := by decide +kernel
theorem dX5_undo_13 : decode cX5_undo 13 = .ok (.ireturn, 1) := by decide +kernel
theorem dX5_undo_14 : decode cX5_undo 14 = .ok (.aload_n 0, 1) := by decide +kernel
theorem dX5_undo_15 : decode cX5_undo 15 = .ok (.dup, 1) := by decide +kernel
theorem dX5_undo_16 : decode cX5_undo 16 = .ok (.getfield 145, 3) := by decide +kernel
theorem dX5_undo_19 : decode cX5_undo 19 = .ok (.iconst 1, 1) := by decide +kernel
theorem dX5_undo_20 : decode cX5_undo 20 = .ok (.isub, 1) := by decide +kernel
theorem dX5_undo_21 : decode cX5_undo 21 = .ok (.putfield 145, 3) := by decide +kernel
theorem dX5_undo_24 : decode cX5_undo 24 = .ok (.aload_n 0, 1) := by decide +kernel
theorem dX5_undo_25 : decode cX5_undo 25 = .ok (.getfield 65, 3) := by decide +kernel
theorem dX5_undo_28 : decode cX5_undo 28 = .ok (.sipush 1289, 3) := by decide +kernel
theorem dX5_undo_31 : decode cX5_undo 31 = .ok (.aload_n 0, 1) := by decide +kernel
theorem dX5_undo_32 : decode cX5_undo 32 = .ok (.getfield 145, 3) := by decide +kernel
theorem dX5_undo_35 : decode cX5_undo 35 = .ok (.imul, 1) := by decide +kernel
theorem dX5_undo_36 : decode cX5_undo 36 = .ok (.aload_n 0, 1) := by decide +kernel
theorem dX5_undo_37 : decode cX5_undo 37 = .ok (.getfield 56, 3) := by decide +kernel
theorem dX5_undo_40 : decode cX5_undo 40 = .ok (.iconst 0, 1) := by decide +kernel
theorem dX5_undo_41 : decode cX5_undo 41 = .ok (.invokestatic 141, 3) := by decide +kernel
theorem dX5_undo_44 : decode cX5_undo 44 = .ok (.aload_n 0, 1) := by decide +kernel
theorem dX5_undo_45 : decode cX5_undo 45 = .ok (.getfield 145, 3) := by decide +kernel
theorem dX5_undo_48 : decode cX5_undo 48 = .ok (.ireturn, 1) := by decide +kernel
theorem dX5_image_0 : decode cX5_image 0 = .ok (.aload_n 0, 1) := by decide +kernel
theorem dX5_image_1 : decode cX5_image 1 = .ok (.iconst 0, 1) := by decide +kernel
theorem dX5_image_2 : decode cX5_image 2 = .ok (.putfield 1, 3) := by decide +kernel
theorem dX5_image_5 : decode cX5_image 5 = .ok (.iload_n 1, 1) := by decide +kernel
theorem dX5_image_6 : decode cX5_image 6 = .ok (.iconst 0, 1) := by decide +kernel
theorem dX5_image_7 : decode cX5_image 7 = .ok (.iconst 1, 1) := by decide +kernel
theorem dX5_image_8 : decode cX5_image 8 = .ok (.invokestatic 99, 3) := by decide +kernel
theorem dX5_image_11 : decode cX5_image 11 = .ok (.ifCond .ne 5, 3) := by decide +kernel
theorem dX5_image_14 : decode cX5_image 14 = .ok (.iconst 0, 1) := by decide +kernel
theorem dX5_image_15 : decode cX5_image 15 = .ok (.ireturn, 1) := by decide +kernel
theorem dX5_image_16 : decode cX5_image 16 = .ok (.aload_n 0, 1) := by decide +kernel
theorem dX5_image_17 : decode cX5_image 17 = .ok (.getfield 56, 3) := by decide +kernel
theorem dX5_image_20 : decode cX5_image 20 = .ok (.iconst 0, 1) := by decide +kernel
theorem dX5_image_21 : decode cX5_image 21 = .ok (.aload_n 0, 1) := by decide +kernel
theorem dX5_image_22 : decode cX5_image 22 = .ok (.getfield 62, 3) := by decide +kernel
theorem dX5_image_25 : decode cX5_image 25 = .ok (.sipush 1289, 3) := by decide +kernel
theorem dX5_image_28 : decode cX5_image 28 = .ok (.iload_n 1, 1) := by decide +kernel
theorem dX5_image_29 : decode cX5_image 29 = .ok (.imul, 1) := by decide +kernel
theorem dX5_image_30 : decode cX5_image 30 = .ok (.invokestatic 141, 3) := by decide +kernel
theorem dX5_image_33 : decode cX5_image 33 = .ok (.aload_n 0, 1) := by decide +kernel
theorem dX5_image_34 : decode cX5_image 34 = .ok (.getfield 68, 3) := by decide +kernel
theorem dX5_image_37 : decode cX5_image 37 = .ok (.iload_n 1, 1) := by decide +kernel
theorem dX5_image_38 : decode cX5_image 38 = .ok (.iconst 1, 1) := by decide +kernel
theorem dX5_image_39 : decode cX5_image 39 = .ok (.bastore, 1) := by decide +kernel
theorem dX5_image_40 : decode cX5_image 40 = .ok (.iconst 1, 1) := by decide +kernel
theorem dX5_image_41 : decode cX5_image 41 = .ok (.ireturn, 1) := by decide +kernel
theorem dX5_restore_0 : decode cX5_restore 0 = .ok (.aload_n 0, 1) := by decide +kernel
theorem dX5_restore_1 : decode cX5_restore 1 = .ok (.iconst 0, 1) := by decide +kernel
theorem dX5_restore_2 : decode cX5_restore 2 = .ok (.putfield 1, 3) := by decide +kernel
theorem dX5_restore_5 : decode cX5_restore 5 = .ok (.iload_n 1, 1) := by decide +kernel
theorem dX5_restore_6 : decode cX5_restore 6 = .ok (.iconst 0, 1) := by decide +kernel
theorem dX5_restore_7 : decode cX5_restore 7 = .ok (.iconst 1, 1) := by decide +kernel
theorem dX5_restore_8 : decode cX5_restore 8 = .ok (.invokestatic 99, 3) := by decide +kernel
theorem dX5_restore_11 : decode cX5_restore 11 = .ok (.ifCond .eq 12, 3) := by decide +kernel
theorem dX5_restore_14 : decode cX5_restore 14 = .ok (.aload_n 0, 1) := by decide +kernel
theorem dX5_restore_15 : decode cX5_restore 15 = .ok (.getfield 68, 3) := by decide +kernel
theorem dX5_restore_18 : decode cX5_restore 18 = .ok (.iload_n 1, 1) := by decide +kernel
theorem dX5_restore_19 : decode cX5_restore 19 = .ok (.baload, 1) := by decide +kernel
theorem dX5_restore_20 : decode cX5_restore 20 = .ok (.ifCond .ne 5, 3) := by decide +kernel
theorem dX5_restore_23 : decode cX5_restore 23 = .ok (.iconst 0, 1) := by decide +kernel
theorem dX5_restore_24 : decode cX5_restore 24 = .ok (.ireturn, 1) := by decide +kernel
theorem dX5_restore_25 : decode cX5_restore 25 = .ok (.aload_n 0, 1) := by decide +kernel
theorem dX5_restore_26 : decode cX5_restore 26 = .ok (.getfield 62, 3) := by decide +kernel
theorem dX5_restore_29 : decode cX5_restore 29 = .ok (.sipush 1289, 3) := by decide +kernel
theorem dX5_restore_32 : decode cX5_restore 32 = .ok (.iload_n 1, 1) := by decide +kernel
theorem dX5_restore_33 : decode cX5_restore 33 = .ok (.imul, 1) := by decide +kernel
theorem dX5_restore_34 : decode cX5_restore 34 = .ok (.aload_n 0, 1) := by decide +kernel
theorem dX5_restore_35 : decode cX5_restore 35 = .ok (.getfield 56, 3) := by decide +kernel
theorem dX5_restore_38 : decode cX5_restore 38 = .ok (.iconst 0, 1) := by decide +kernel
theorem dX5_restore_39 : decode cX5_restore 39 = .ok (.invokestatic 141, 3) := by decide +kernel
theorem dX5_restore_42 : decode cX5_restore 42 = .ok (.aload_n 0, 1) := by decide +kernel
theorem dX5_restore_43 : decode cX5_restore 43 = .ok (.iconst 0, 1) := by decide +kernel
theorem dX5_restore_44 : decode cX5_restore 44 = .ok (.putfield 145, 3) := by decide +kernel
theorem dX5_restore_47 : decode cX5_restore 47 = .ok (.iconst 1, 1) := by decide +kernel
theorem dX5_restore_48 : decode cX5_restore 48 = .ok (.ireturn, 1) := by decide +kernel
theorem dJ6_bitCount_0f7a4_0 : decode cJ6_bitCount_0f7a4 0 = .ok (.iload_n 0, 1) := by decide +kernel
theorem dJ6_bitCount_0f7a4_1 : decode cJ6_bitCount_0f7a4 1 = .ok (.iload_n 0, 1) := by decide +kernel
theorem dJ6_bitCount_0f7a4_2 : decode cJ6_bitCount_0f7a4 2 = .ok (.iconst 1, 1) := by decide +kernel
theorem dJ6_bitCount_0f7a4_3 : decode cJ6_bitCount_0f7a4 3 = .ok (.iushr, 1) := by decide +kernel
theorem dJ6_bitCount_0f7a4_4 : decode cJ6_bitCount_0f7a4 4 = .ok (.ldc_w 265, 3) := by decide +kernel
theorem dJ6_bitCount_0f7a4_7 : decode cJ6_bitCount_0f7a4 7 = .ok (.iand, 1) := by decide +kernel
theorem dJ6_bitCount_0f7a4_8 : decode cJ6_bitCount_0f7a4 8 = .ok (.isub, 1) := by decide +kernel
theorem dJ6_bitCount_0f7a4_9 : decode cJ6_bitCount_0f7a4 9 = .ok (.istore_n 0, 1) := by decide +kernel
theorem dJ6_bitCount_0f7a4_10 : decode cJ6_bitCount_0f7a4 10 = .ok (.iload_n 0, 1) := by decide +kernel
theorem dJ6_bitCount_0f7a4_11 : decode cJ6_bitCount_0f7a4 11 = .ok (.ldc_w 266, 3) := by decide +kernel
theorem dJ6_bitCount_0f7a4_14 : decode cJ6_bitCount_0f7a4 14 = .ok (.iand, 1) := by decide +kernel
theorem dJ6_bitCount_0f7a4_15 : decode cJ6_bitCount_0f7a4 15 = .ok (.iload_n 0, 1) := by decide +kernel
theorem dJ6_bitCount_0f7a4_16 : decode cJ6_bitCount_0f7a4 16 = .ok (.iconst 2, 1) := by decide +kernel
theorem dJ6_bitCount_0f7a4_17 : decode cJ6_bitCount_0f7a4 17 = .ok (.iushr, 1) := by decide +kernel
theorem dJ6_bitCount_0f7a4_18 : decode cJ6_bitCount_0f7a4 18 = .ok (.ldc_w 266, 3) := by decide +kernel
theorem dJ6_bitCount_0f7a4_21 : decode cJ6_bitCount_0f7a4 21 = .ok (.iand, 1) := by decide +kernel
theorem dJ6_bitCount_0f7a4_22 : decode cJ6_bitCount_0f7a4 22 = .ok (.iadd, 1) := by decide +kernel
theorem dJ6_bitCount_0f7a4_23 : decode cJ6_bitCount_0f7a4 23 = .ok (.istore_n 0, 1) := by decide +kernel
theorem dJ6_bitCount_0f7a4_24 : decode cJ6_bitCount_0f7a4 24 = .ok (.iload_n 0, 1) := by decide +kernel
theorem dJ6_bitCount_0f7a4_25 : decode cJ6_bitCount_0f7a4 25 = .ok (.iload_n 0, 1) := by decide +kernel
theorem dJ6_bitCount_0f7a4_26 : decode cJ6_bitCount_0f7a4 26 = .ok (.iconst 4, 1) := by decide +kernel
theorem dJ6_bitCount_0f7a4_27 : decode cJ6_bitCount_0f7a4 27 = .ok (.iushr, 1) := by decide +kernel
theorem dJ6_bitCount_0f7a4_28 : decode cJ6_bitCount_0f7a4 28 = .ok (.iadd, 1) := by decide +kernel
theorem dJ6_bitCount_0f7a4_29 : decode cJ6_bitCount_0f7a4 29 = .ok (.ldc_w 267, 3) := by decide +kernel
theorem dJ6_bitCount_0f7a4_32 : decode cJ6_bitCount_0f7a4 32 = .ok (.iand, 1) := by decide +kernel
theorem dJ6_bitCount_0f7a4_33 : decode cJ6_bitCount_0f7a4 33 = .ok (.istore_n 0, 1) := by decide +kernel
theorem dJ6_bitCount_0f7a4_34 : decode cJ6_bitCount_0f7a4 34 = .ok (.iload_n 0, 1) := by decide +kernel
theorem dJ6_bitCount_0f7a4_35 : decode cJ6_bitCount_0f7a4 35 = .ok (.iload_n 0, 1) := by decide +kernel
theorem dJ6_bitCount_0f7a4_36 : decode cJ6_bitCount_0f7a4 36 = .ok (.bipush 8, 2) := by decide +kernel
theorem dJ6_bitCount_0f7a4_38 : decode cJ6_bitCount_0f7a4 38 = .ok (.iushr, 1) := by decide +kernel
theorem dJ6_bitCount_0f7a4_39 : decode cJ6_bitCount_0f7a4 39 = .ok (.iadd, 1) := by decide +kernel
theorem dJ6_bitCount_0f7a4_40 : decode cJ6_bitCount_0f7a4 40 = .ok (.istore_n 0, 1) := by decide +kernel
theorem dJ6_bitCount_0f7a4_41 : decode cJ6_bitCount_0f7a4 41 = .ok (.iload_n 0, 1) := by decide +kernel
theorem dJ6_bitCount_0f7a4_42 : decode cJ6_bitCount_0f7a4 42 = .ok (.iload_n 0, 1) := by decide +kernel
theorem dJ6_bitCount_0f7a4_43 : decode cJ6_bitCount_0f7a4 43 = .ok (.bipush 16, 2) := by decide +kernel
theorem dJ6_bitCount_0f7a4_45 : decode cJ6_bitCount_0f7a4 45 = .ok (.iushr, 1) := by decide +kernel
theorem dJ6_bitCount_0f7a4_46 : decode cJ6_bitCount_0f7a4 46 = .ok (.iadd, 1) := by decide +kernel
theorem dJ6_bitCount_0f7a4_47 : decode cJ6_bitCount_0f7a4 47 = .ok (.istore_n 0, 1) := by decide +kernel
theorem dJ6_bitCount_0f7a4_48 : decode cJ6_bitCount_0f7a4 48 = .ok (.iload_n 0, 1) := by decide +kernel
theorem dJ6_bitCount_0f7a4_49 : decode cJ6_bitCount_0f7a4 49 = .ok (.bipush 63, 2) := by decide +kernel
theorem dJ6_bitCount_0f7a4_51 : decode cJ6_bitCount_0f7a4 51 = .ok (.iand, 1) := by decide +kernel
theorem dJ6_bitCount_0f7a4_52 : decode cJ6_bitCount_0f7a4 52 = .ok (.ireturn, 1) := by decide +kernel
theorem dJ13_bitCount_95d88_0 : decode cJ13_bitCount_95d88 0 = .ok (.lload_n 0, 1) := by decide +kernel
theorem dJ13_bitCount_95d88_1 : decode cJ13_bitCount_95d88 1 = .ok (.lload_n 0, 1) := by decide +kernel
theorem dJ13_bitCount_95d88_2 : decode cJ13_bitCount_95d88 2 = .ok (.iconst 1, 1) := by decide +kernel
theorem dJ13_bitCount_95d88_3 : decode cJ13_bitCount_95d88 3 = .ok (.lushr, 1) := by decide +kernel
theorem dJ13_bitCount_95d88_4 : decode cJ13_bitCount_95d88 4 = .ok (.ldc2_w 314, 3) := by decide +kernel
theorem dJ13_bitCount_95d88_7 : decode cJ13_bitCount_95d88 7 = .ok (.land, 1) := by decide +kernel
theorem dJ13_bitCount_95d88_8 : decode cJ13_bitCount_95d88 8 = .ok (.lsub, 1) := by decide +kernel
theorem dJ13_bitCount_95d88_9 : decode cJ13_bitCount_95d88 9 = .ok (.lstore_n 0, 1) := by decide +kernel
theorem dJ13_bitCount_95d88_10 : decode cJ13_bitCount_95d88 10 = .ok (.lload_n 0, 1) := by decide +kernel
theorem dJ13_bitCount_95d88_11 : decode cJ13_bitCount_95d88 11 = .ok (.ldc2_w 316, 3) := by decide +kernel
theorem dJ13_bitCount_95d88_14 : decode cJ13_bitCount_95d88 14 = .ok (.land, 1) := by decide +kernel
theorem dJ13_bitCount_95d88_15 : decode cJ13_bitCount_95d88 15 = .ok (.lload_n 0, 1) := by decide +kernel
theorem dJ13_bitCount_95d88_16 : decode cJ13_bitCount_95d88 16 = .ok (.iconst 2, 1) := by decide +kernel
theorem dJ13_bitCount_95d88_17 : decode cJ13_bitCount_95d88 17 = .ok (.lushr, 1) := by decide +kernel
theorem dJ13_bitCount_95d88_18 : decode cJ13_bitCount_95d88 18 = .ok (.ldc2_w 316, 3) := by decide +kernel
theorem dJ13_bitCount_95d88_21 : decode cJ13_bitCount_95d88 21 = .ok (.land, 1) := by decide +kernel
theorem dJ13_bitCount_95d88_22 : decode cJ13_bitCount_95d88 22 = .ok (.ladd, 1) := by decide +kernel
theorem dJ13_bitCount_95d88_23 : decode cJ13_bitCount_95d88 23 = .ok (.lstore_n 0, 1) := by decide +kernel
theorem dJ13_bitCount_95d88_24 : decode cJ13_bitCount_95d88 24 = .ok (.lload_n 0, 1) := by decide +kernel
theorem dJ13_bitCount_95d88_25 : decode cJ13_bitCount_95d88 25 = .ok (.lload_n 0, 1) := by decide +kernel
theorem dJ13_bitCount_95d88_26 : decode cJ13_bitCount_95d88 26 = .ok (.iconst 4, 1) := by decide +kernel
theorem dJ13_bitCount_95d88_27 : decode cJ13_bitCount_95d88 27 = .ok (.lushr, 1) := by decide +kernel
theorem dJ13_bitCount_95d88_28 : decode cJ13_bitCount_95d88 28 = .ok (.ladd, 1) := by decide +kernel
theorem dJ13_bitCount_95d88_29 : decode cJ13_bitCount_95d88 29 = .ok (.ldc2_w 318, 3) := by decide +kernel
theorem dJ13_bitCount_95d88_32 : decode cJ13_bitCount_95d88 32 = .ok (.land, 1) := by decide +kernel
theorem dJ13_bitCount_95d88_33 : decode cJ13_bitCount_95d88 33 = .ok (.lstore_n 0, 1) := by decide +kernel
theorem dJ13_bitCount_95d88_34 : decode cJ13_bitCount_95d88 34 = .ok (.lload_n 0, 1) := by decide +kernel
theorem dJ13_bitCount_95d88_35 : decode cJ13_bitCount_95d88 35 = .ok (.lload_n 0, 1) := by decide +kernel
theorem dJ13_bitCount_95d88_36 : decode cJ13_bitCount_95d88 36 = .ok (.bipush 8, 2) := by decide +kernel
theorem dJ13_bitCount_95d88_38 : decode cJ13_bitCount_95d88 38 = .ok (.lushr, 1) := by decide +kernel
theorem dJ13_bitCount_95d88_39 : decode cJ13_bitCount_95d88 39 = .ok (.ladd, 1) := by decide +kernel
theorem dJ13_bitCount_95d88_40 : decode cJ13_bitCount_95d88 40 = .ok (.lstore_n 0, 1) := by decide +kernel
theorem dJ13_bitCount_95d88_41 : decode cJ13_bitCount_95d88 41 = .ok (.lload_n 0, 1) := by decide +kernel
theorem dJ13_bitCount_95d88_42 : decode cJ13_bitCount_95d88 42 = .ok (.lload_n 0, 1) := by decide +kernel
theorem dJ13_bitCount_95d88_43 : decode cJ13_bitCount_95d88 43 = .ok (.bipush 16, 2) := by decide +kernel
theorem dJ13_bitCount_95d88_45 : decode cJ13_bitCount_95d88 45 = .ok (.lushr, 1) := by decide +kernel
theorem dJ13_bitCount_95d88_46 : decode cJ13_bitCount_95d88 46 = .ok (.ladd, 1) := by decide +kernel
theorem dJ13_bitCount_95d88_47 : decode cJ13_bitCount_95d88 47 = .ok (.lstore_n 0, 1) := by decide +kernel
theorem dJ13_bitCount_95d88_48 : decode cJ13_bitCount_95d88 48 = .ok (.lload_n 0, 1) := by decide +kernel
theorem dJ13_bitCount_95d88_49 : decode cJ13_bitCount_95d88 49 = .ok (.lload_n 0, 1) := by decide +kernel
theorem dJ13_bitCount_95d88_50 : decode cJ13_bitCount_95d88 50 = .ok (.bipush 32, 2) := by decide +kernel
theorem dJ13_bitCount_95d88_52 : decode cJ13_bitCount_95d88 52 = .ok (.lushr, 1) := by decide +kernel
theorem dJ13_bitCount_95d88_53 : decode cJ13_bitCount_95d88 53 = .ok (.ladd, 1) := by decide +kernel
theorem dJ13_bitCount_95d88_54 : decode cJ13_bitCount_95d88 54 = .ok (.lstore_n 0, 1) := by decide +kernel
theorem dJ13_bitCount_95d88_55 : decode cJ13_bitCount_95d88 55 = .ok (.lload_n 0, 1) := by decide +kernel
theorem dJ13_bitCount_95d88_56 : decode cJ13_bitCount_95d88 56 = .ok (.l2i, 1) := by decide +kernel
theorem dJ13_bitCount_95d88_57 : decode cJ13_bitCount_95d88 57 = .ok (.bipush 127, 2) := by decide +kernel
theorem dJ13_bitCount_95d88_59 : decode cJ13_bitCount_95d88 59 = .ok (.iand, 1) := by decide +kernel
theorem dJ13_bitCount_95d88_60 : decode cJ13_bitCount_95d88 60 = .ok (.ireturn, 1) := by decide +kernel
theorem dJ9_min_7cf53_0 : decode cJ9_min_7cf53 0 = .ok (.iload_n 0, 1) := by decide +kernel
theorem dJ9_min_7cf53_1 : decode cJ9_min_7cf53 1 = .ok (.iload_n 1, 1) := by decide +kernel
theorem dJ9_min_7cf53_2 : decode cJ9_min_7cf53 2 = .ok (.if_icmp .gt 7, 3) := by decide +kernel
theorem dJ9_min_7cf53_5 : decode cJ9_min_7cf53 5 = .ok (.iload_n 0, 1) := by decide +kernel
theorem dJ9_min_7cf53_6 : decode cJ9_min_7cf53 6 = .ok (.goto 4, 3) := by decide +kernel
theorem dJ9_min_7cf53_9 : decode cJ9_min_7cf53 9 = .ok (.iload_n 1, 1) := by decide +kernel
theorem dJ9_min_7cf53_10 : decode cJ9_min_7cf53 10 = .ok (.ireturn, 1) := by decide +kernel
theorem dJ0_length_8abf5_0 : decode cJ0_length_8abf5 0 = .ok (.aload_n 0, 1) := by decide +kernel
theorem dJ0_length_8abf5_1 : decode cJ0_length_8abf5 1 = .ok (.getfield 9, 3) := by decide +kernel
