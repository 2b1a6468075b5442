theorem dX4_turn_0 : decode cX4_turn 0 = .ok (.aload_n 0, 1) := by decide +kernel
theorem dX4_turn_1 : decode cX4_turn 1 = .ok (.getfield 29, 3) := by decide +kernel
theorem dX4_turn_4 : decode cX4_turn 4 = .ok (.bipush 26, 2) := by decide +kernel
theorem dX4_turn_6 : decode cX4_turn 6 = .ok (.iload_n 1, 1) := by decide +kernel
theorem dX4_turn_7 : decode cX4_turn 7 = .ok (.imul, 1) := by decide +kernel
theorem dX4_turn_8 : decode cX4_turn 8 = .ok (.iload_n 2, 1) := by decide +kernel
theorem dX4_turn_9 : decode cX4_turn 9 = .ok (.iadd, 1) := by decide +kernel
theorem dX4_turn_10 : decode cX4_turn 10 = .ok (.laload, 1) := by decide +kernel
theorem dX4_turn_11 : decode cX4_turn 11 = .ok (.lstore_n 3, 1) := by decide +kernel
theorem dX4_turn_12 : decode cX4_turn 12 = .ok (.iconst 0, 1) := by decide +kernel
theorem dX4_turn_13 : decode cX4_turn 13 = .ok (.istore 5, 2) := by decide +kernel
theorem dX4_turn_15 : decode cX4_turn 15 = .ok (.iload 5, 2) := by decide +kernel
theorem dX4_turn_17 : decode cX4_turn 17 = .ok (.aload_n 0, 1) := by decide +kernel
theorem dX4_turn_18 : decode cX4_turn 18 = .ok (.getfield 112, 3) := by decide +kernel
theorem dX4_turn_21 : decode cX4_turn 21 = .ok (.if_icmp .ge 100, 3) := by decide +kernel
theorem dX4_turn_24 : decode cX4_turn 24 = .ok (.aload_n 0, 1) := by decide +kernel
theorem dX4_turn_25 : decode cX4_turn 25 = .ok (.getfield 29, 3) := by decide +kernel
theorem dX4_turn_28 : decode cX4_turn 28 = .ok (.bipush 26, 2) := by decide +kernel
theorem dX4_turn_30 : decode cX4_turn 30 = .ok (.iload 5, 2) := by decide +kernel
theorem dX4_turn_32 : decode cX4_turn 32 = .ok (.imul, 1) := by decide +kernel
theorem dX4_turn_33 : decode cX4_turn 33 = .ok (.iload_n 2, 1) := by decide +kernel
theorem dX4_turn_34 : decode cX4_turn 34 = .ok (.iadd, 1) := by decide +kernel
theorem dX4_turn_35 : decode cX4_turn 35 = .ok (.laload, 1) := by decide +kernel
theorem dX4_turn_36 : decode cX4_turn 36 = .ok (.lstore 6, 2) := by decide +kernel
theorem dX4_turn_38 : decode cX4_turn 38 = .ok (.iconst 0, 1) := by decide +kernel
theorem dX4_turn_39 : decode cX4_turn 39 = .ok (.istore 8, 2) := by decide +kernel
theorem dX4_turn_41 : decode cX4_turn 41 = .ok (.iload 8, 2) := by decide +kernel
theorem dX4_turn_43 : decode cX4_turn 43 = .ok (.aload_n 0, 1) := by decide +kernel
theorem dX4_turn_44 : decode cX4_turn 44 = .ok (.invokevirtual 122, 3) := by decide +kernel
theorem dX4_turn_47 : decode cX4_turn 47 = .ok (.if_icmp .gt 68, 3) := by decide +kernel
theorem dX4_turn_50 : decode cX4_turn 50 = .ok (.iload 5, 2) := by decide +kernel
theorem dX4_turn_52 : decode cX4_turn 52 = .ok (.iload_n 1, 1) := by decide +kernel
theorem dX4_turn_53 : decode cX4_turn 53 = .ok (.if_icmp .eq 62, 3) := by decide +kernel
theorem dX4_turn_56 : decode cX4_turn 56 = .ok (.aload_n 0, 1) := by decide +kernel
theorem dX4_turn_57 : decode cX4_turn 57 = .ok (.aload_n 0, 1) := by decide +kernel
theorem dX4_turn_58 : decode cX4_turn 58 = .ok (.getfield 29, 3) := by decide +kernel
theorem dX4_turn_61 : decode cX4_turn 61 = .ok (.bipush 26, 2) := by decide +kernel
theorem dX4_turn_63 : decode cX4_turn 63 = .ok (.iload 5, 2) := by decide +kernel
theorem dX4_turn_65 : decode cX4_turn 65 = .ok (.imul, 1) := by decide +kernel
theorem dX4_turn_66 : decode cX4_turn 66 = .ok (.iload 8, 2) := by decide +kernel
theorem dX4_turn_68 : decode cX4_turn 68 = .ok (.iadd, 1) := by decide +kernel
theorem dX4_turn_69 : decode cX4_turn 69 = .ok (.laload, 1) := by decide +kernel
theorem dX4_turn_70 : decode cX4_turn 70 = .ok (.lload_n 3, 1) := by decide +kernel
theorem dX4_turn_71 : decode cX4_turn 71 = .ok (.lload 6, 2) := by decide +kernel
theorem dX4_turn_73 : decode cX4_turn 73 = .ok (.aload_n 0, 1) := by decide +kernel
theorem dX4_turn_74 : decode cX4_turn 74 = .ok (.getfield 29, 3) := by decide +kernel
theorem dX4_turn_77 : decode cX4_turn 77 = .ok (.bipush 26, 2) := by decide +kernel
theorem dX4_turn_79 : decode cX4_turn 79 = .ok (.iload_n 1, 1) := by decide +kernel
theorem dX4_turn_80 : decode cX4_turn 80 = .ok (.imul, 1) := by decide +kernel
theorem dX4_turn_81 : decode cX4_turn 81 = .ok (.iload 8, 2) := by decide +kernel
theorem dX4_turn_83 : decode cX4_turn 83 = .ok (.iadd, 1) := by decide +kernel
theorem dX4_turn_84 : decode cX4_turn 84 = .ok (.laload, 1) := by decide +kernel
theorem dX4_turn_85 : decode cX4_turn 85 = .ok (.invokevirtual 96, 3) := by decide +kernel
theorem dX4_turn_88 : decode cX4_turn 88 = .ok (.aload_n 0, 1) := by decide +kernel
theorem dX4_turn_89 : decode cX4_turn 89 = .ok (.getfield 29, 3) := by decide +kernel
theorem dX4_turn_92 : decode cX4_turn 92 = .ok (.bipush 26, 2) := by decide +kernel
theorem dX4_turn_94 : decode cX4_turn 94 = .ok (.iload 5, 2) := by decide +kernel
theorem dX4_turn_96 : decode cX4_turn 96 = .ok (.imul, 1) := by decide +kernel
theorem dX4_turn_97 : decode cX4_turn 97 = .ok (.iload 8, 2) := by decide +kernel
theorem dX4_turn_99 : decode cX4_turn 99 = .ok (.iadd, 1) := by decide +kernel
theorem dX4_turn_100 : decode cX4_turn 100 = .ok (.aload_n 0, 1) := by decide +kernel
theorem dX4_turn_101 : decode cX4_turn 101 = .ok (.aload_n 0, 1) := by decide +kernel
theorem dX4_turn_102 : decode cX4_turn 102 = .ok (.getfield 115, 3) := by decide +kernel
theorem dX4_turn_105 : decode cX4_turn 105 = .ok (.invokevirtual 130, 3) := by decide +kernel
theorem dX4_turn_108 : decode cX4_turn 108 = .ok (.lastore, 1) := by decide +kernel
theorem dX4_turn_109 : decode cX4_turn 109 = .ok (.iinc 8 1, 3) := by decide +kernel
theorem dX4_turn_112 : decode cX4_turn 112 = .ok (.goto (-71), 3) := by decide +kernel
theorem dX4_turn_115 : decode cX4_turn 115 = .ok (.iinc 5 1, 3) := by decide +kernel
theorem dX4_turn_118 : decode cX4_turn 118 = .ok (.goto (-103), 3) := by decide +kernel
theorem dX4_turn_121 : decode cX4_turn 121 = .ok (.aload_n 0, 1) := by decide +kernel
theorem dX4_turn_122 : decode cX4_turn 122 = .ok (.lload_n 3, 1) := by decide +kernel
theorem dX4_turn_123 : decode cX4_turn 123 = .ok (.putfield 115, 3) := by decide +kernel
theorem dX4_turn_126 : decode cX4_turn 126 = .ok (.lload_n 3, 1) := by decide +kernel
theorem dX4_turn_127 : decode cX4_turn 127 = .ok (.lconst 0, 1) := by decide +kernel
theorem dX4_turn_128 : decode cX4_turn 128 = .ok (.lcmp, 1) := by decide +kernel
theorem dX4_turn_129 : decode cX4_turn 129 = .ok (.ifCond .ge 72, 3) := by decide +kernel
theorem dX4_turn_132 : decode cX4_turn 132 = .ok (.aload_n 0, 1) := by decide +kernel
theorem dX4_turn_133 : decode cX4_turn 133 = .ok (.lload_n 3, 1) := by decide +kernel
theorem dX4_turn_134 : decode cX4_turn 134 = .ok (.lneg, 1) := by decide +kernel
theorem dX4_turn_135 : decode cX4_turn 135 = .ok (.putfield 115, 3) := by decide +kernel
theorem dX4_turn_138 : decode cX4_turn 138 = .ok (.iconst 0, 1) := by decide +kernel
theorem dX4_turn_139 : decode cX4_turn 139 = .ok (.istore 5, 2) := by decide +kernel
theorem dX4_turn_141 : decode cX4_turn 141 = .ok (.iload 5, 2) := by decide +kernel
theorem dX4_turn_143 : decode cX4_turn 143 = .ok (.aload_n 0, 1) := by decide +kernel
theorem dX4_turn_144 : decode cX4_turn 144 = .ok (.getfield 112, 3) := by decide +kernel
theorem dX4_turn_147 : decode cX4_turn 147 = .ok (.if_icmp .ge 54, 3) := by decide +kernel
theorem dX4_turn_150 : decode cX4_turn 150 = .ok (.iconst 0, 1) := by decide +kernel
theorem dX4_turn_151 : decode cX4_turn 151 = .ok (.istore 6, 2) := by decide +kernel
theorem dX4_turn_153 : decode cX4_turn 153 = .ok (.iload 6, 2) := by decide +kernel
theorem dX4_turn_155 : decode cX4_turn 155 = .ok (.aload_n 0, 1) := by decide +kernel
theorem dX4_turn_156 : decode cX4_turn 156 = .ok (.invokevirtual 122, 3) := by decide +kernel
theorem dX4_turn_159 : decode cX4_turn 159 = .ok (.if_icmp .gt 36, 3) := by decide +kernel
theorem dX4_turn_162 : decode cX4_turn 162 = .ok (.aload_n 0, 1) := by decide +kernel
theorem dX4_turn_163 : decode cX4_turn 163 = .ok (.getfield 29, 3) := by decide +kernel
theorem dX4_turn_166 : decode cX4_turn 166 = .ok (.bipush 26, 2) := by decide +kernel
theorem dX4_turn_168 : decode cX4_turn 168 = .ok (.iload 5, 2) := by decide +kernel
theorem dX4_turn_170 : decode cX4_turn 170 = .ok (.imul, 1) := by decide +kernel
theorem dX4_turn_171 : decode cX4_turn 171 = .ok (.iload 6, 2) := by decide +kernel
theorem dX4_turn_173 : decode cX4_turn 173 = .ok (.iadd, 1) := by decide +kernel
theorem dX4_turn_174 : decode cX4_turn 174 = .ok (.aload_n 0, 1) := by decide +kernel
theorem dX4_turn_175 : decode cX4_turn 175 = .ok (.getfield 29, 3) := by decide +kernel
theorem dX4_turn_178 : decode cX4_turn 178 = .ok (.bipush 26, 2) := by decide +kernel
theorem dX4_turn_180 : decode cX4_turn 180 = .ok (.iload 5, 2) := by decide +kernel
theorem dX4_turn_182 : decode cX4_turn 182 = .ok (.imul, 1) := by decide +kernel
theorem dX4_turn_183 : decode cX4_turn 183 = .ok (.iload 6, 2) := by decide +kernel
theorem dX4_turn_185 : decode cX4_turn 185 = .ok (.iadd, 1) := by decide +kernel
theorem dX4_turn_186 : decode cX4_turn 186 = .ok (.laload, 1) := by decide +kernel
theorem dX4_turn_187 : decode cX4_turn 187 = .ok (.lneg, 1) := by decide +kernel
theorem dX4_turn_188 : decode cX4_turn 188 = .ok (.lastore, 1) := by decide +kernel
theorem dX4_turn_189 : decode cX4_turn 189 = .ok (.iinc 6 1, 3) := by decide +kernel
theorem dX4_turn_192 : decode cX4_turn 192 = .ok (.goto (-39), 3) := by decide +kernel
theorem dX4_turn_195 : decode cX4_turn 195 = .ok (.iinc 5 1, 3) := by decide +kernel
theorem dX4_turn_198 : decode cX4_turn 198 = .ok (.goto (-57), 3) := by decide +kernel
theorem dX4_turn_201 : decode cX4_turn 201 = .ok (.return_, 1) := by decide +kernel
theorem dX4_columnOf_0 : decode cX4_columnOf 0 = .ok (.iload_n 1, 1) := by decide +kernel
theorem dX4_columnOf_1 : decode cX4_columnOf 1 = .ok (.sipush 200, 3) := by decide +kernel
theorem dX4_columnOf_4 : decode cX4_columnOf 4 = .ok (.if_icmp .ne 12, 3) := by decide +kernel
theorem dX4_columnOf_7 : decode cX4_columnOf 7 = .ok (.iconst 2, 1) := by decide +kernel
theorem dX4_columnOf_8 : decode cX4_columnOf 8 = .ok (.aload_n 0, 1) := by decide +kernel
theorem dX4_columnOf_9 : decode cX4_columnOf 9 = .ok (.getfield 112, 3) := by decide +kernel
theorem dX4_columnOf_12 : decode cX4_columnOf 12 = .ok (.imul, 1) := by decide +kernel
theorem dX4_columnOf_13 : decode cX4_columnOf 13 = .ok (.goto 22, 3) := by decide +kernel
theorem dX4_columnOf_16 : decode cX4_columnOf 16 = .ok (.iload_n 1, 1) := by decide +kernel
theorem dX4_columnOf_17 : decode cX4_columnOf 17 = .ok (.bipush 100, 2) := by decide +kernel
theorem dX4_columnOf_19 : decode cX4_columnOf 19 = .ok (.if_icmp .lt 15, 3) := by decide +kernel
theorem dX4_columnOf_22 : decode cX4_columnOf 22 = .ok (.aload_n 0, 1) := by decide +kernel
theorem dX4_columnOf_23 : decode cX4_columnOf 23 = .ok (.getfield 112, 3) := by decide +kernel
theorem dX4_columnOf_26 : decode cX4_columnOf 26 = .ok (.iload_n 1, 1) := by decide +kernel
theorem dX4_columnOf_27 : decode cX4_columnOf 27 = .ok (.iadd, 1) := by decide +kernel
theorem dX4_columnOf_28 : decode cX4_columnOf 28 = .ok (.bipush 100, 2) := by decide +kernel
theorem dX4_columnOf_30 : decode cX4_columnOf 30 = .ok (.isub, 1) := by decide +kernel
theorem dX4_columnOf_31 : decode cX4_columnOf 31 = .ok (.goto 4, 3) := by decide +kernel
theorem dX4_columnOf_34 : decode cX4_columnOf 34 = .ok (.iload_n 1, 1) := by decide +kernel
theorem dX4_columnOf_35 : decode cX4_columnOf 35 = .ok (.ireturn, 1) := by decide +kernel
set_option maxRecDepth 20000 in
theorem ggX4_does_X4_columnOf : GoodIn wsX4_does wsX4_columnOf := goodIn_r _ [14, 3, 49, 50, 51, 52, 53, 54, 55, 56, 57, 58, 59, 60, 61, 62, 63, 64, 65, 66, 67, 68] (by decide +kernel) (by decide +kernel)
set_option maxRecDepth 20000 in
theorem gX4_does_X4_columnOf : GoodIn wsX4_does (wsV RX4 133 RX4 yX4_columnOf wsX4_columnOf) := goodIn_app (goodIn_of _ (by decide +kernel)) ggX4_does_X4_columnOf
set_option maxRecDepth 20000 in
theorem ggX4_does_X4_isLess : GoodIn wsX4_does wsX4_isLess := goodIn_r _ [18, 4, 3, 19, 20, 21, 13, 22, 23, 24, 25, 26, 27, 28, 29, 30, 31, 32, 33, 34, 35, 36, 37, 38, 49, 50, 51, 52, 53, 54, 55, 56, 57, 58, 59, 60, 61, 62, 63, 64, 65, 66, 67, 68] (by decide +kernel) (by decide +kernel)
set_option maxRecDepth 20000 in
theorem gX4_does_X4_isLess : GoodIn wsX4_does (wsV RX4 137 RX4 yX4_isLess wsX4_isLess) := goodIn_app (goodIn_of _ (by decide +kernel)) ggX4_does_X4_isLess
set_option maxRecDepth 20000 in
theorem ggX4_does_X4_turn : GoodIn wsX4_does wsX4_turn := goodIn_r _ [42, 4, 3, 43, 19, 20, 21, 13, 22, 29, 30, 31, 32, 27, 28, 33, 34, 35, 36, 37, 38, 44, 45, 46, 47, 48, 49, 50, 51, 52, 53, 54, 55, 56, 57, 58, 59, 60, 61, 62, 63, 64, 65, 66, 67, 68] (by decide +kernel) (by decide +kernel)
set_option maxRecDepth 20000 in
theorem gX4_does_X4_turn : GoodIn wsX4_does (wsV RX4 140 RX4 yX4_turn wsX4_turn) := goodIn_app (goodIn_of _ (by decide +kernel)) ggX4_does_X4_turn
theorem dX4_does_0 : decode cX4_does 0 = .ok (.aload_n 0, 1) := by decide +kernel
theorem dX4_does_1 : decode cX4_does 1 = .ok (.getfield 55, 3) := by decide +kernel
theorem dX4_does_4 : decode cX4_does 4 = .ok (.ifCond .ne 9, 3) := by decide +kernel
theorem dX4_does_7 : decode cX4_does 7 = .ok (.sipush 200, 3) := by decide +kernel
theorem dX4_does_10 : decode cX4_does 10 = .ok (.goto 50, 3) := by decide +kernel
theorem dX4_does_13 : decode cX4_does 13 = .ok (.aload_n 0, 1) := by decide +kernel
theorem dX4_does_14 : decode cX4_does 14 = .ok (.getfield 39, 3) := by decide +kernel
theorem dX4_does_17 : decode cX4_does 17 = .ok (.aload_n 0, 1) := by decide +kernel
theorem dX4_does_18 : decode cX4_does 18 = .ok (.getfield 55, 3) := by decide +kernel
theorem dX4_does_21 : decode cX4_does 21 = .ok (.iconst 1, 1) := by decide +kernel
theorem dX4_does_22 : decode cX4_does 22 = .ok (.isub, 1) := by decide +kernel
theorem dX4_does_23 : decode cX4_does 23 = .ok (.iaload, 1) := by decide +kernel
theorem dX4_does_24 : decode cX4_does 24 = .ok (.bipush 100, 2) := by decide +kernel
theorem dX4_does_26 : decode cX4_does 26 = .ok (.if_icmp .ge 20, 3) := by decide +kernel
theorem dX4_does_29 : decode cX4_does 29 = .ok (.aload_n 0, 1) := by decide +kernel
theorem dX4_does_30 : decode cX4_does 30 = .ok (.getfield 39, 3) := by decide +kernel
theorem dX4_does_33 : decode cX4_does 33 = .ok (.aload_n 0, 1) := by decide +kernel
theorem dX4_does_34 : decode cX4_does 34 = .ok (.getfield 55, 3) := by decide +kernel
theorem dX4_does_37 : decode cX4_does 37 = .ok (.iconst 1, 1) := by decide +kernel
theorem dX4_does_38 : decode cX4_does 38 = .ok (.isub, 1) := by decide +kernel
theorem dX4_does_39 : decode cX4_does 39 = .ok (.iaload, 1) := by decide +kernel
theorem dX4_does_40 : decode cX4_does 40 = .ok (.bipush 100, 2) := by decide +kernel
theorem dX4_does_42 : decode cX4_does 42 = .ok (.iadd, 1) := by decide +kernel
theorem dX4_does_43 : decode cX4_does 43 = .ok (.goto 17, 3) := by decide +kernel
theorem dX4_does_46 : decode cX4_does 46 = .ok (.aload_n 0, 1) := by decide +kernel
theorem dX4_does_47 : decode cX4_does 47 = .ok (.getfield 39, 3) := by decide +kernel
theorem dX4_does_50 : decode cX4_does 50 = .ok (.aload_n 0, 1) := by decide +kernel
theorem dX4_does_51 : decode cX4_does 51 = .ok (.getfield 55, 3) := by decide +kernel
theorem dX4_does_54 : decode cX4_does 54 = .ok (.iconst 1, 1) := by decide +kernel
theorem dX4_does_55 : decode cX4_does 55 = .ok (.isub, 1) := by decide +kernel
theorem dX4_does_56 : decode cX4_does 56 = .ok (.iaload, 1) := by decide +kernel
theorem dX4_does_57 : decode cX4_does 57 = .ok (.bipush 100, 2) := by decide +kernel
theorem dX4_does_59 : decode cX4_does 59 = .ok (.isub, 1) := by decide +kernel
theorem dX4_does_60 : decode cX4_does 60 = .ok (.istore_n 1, 1) := by decide +kernel
theorem dX4_does_61 : decode cX4_does 61 = .ok (.aload_n 0, 1) := by decide +kernel
theorem dX4_does_62 : decode cX4_does 62 = .ok (.iload_n 1, 1) := by decide +kernel
theorem dX4_does_63 : decode cX4_does 63 = .ok (.invokevirtual 133, 3) := by decide +kernel
theorem dX4_does_66 : decode cX4_does 66 = .ok (.istore_n 2, 1) := by decide +kernel
theorem dX4_does_67 : decode cX4_does 67 = .ok (.iconst (-1), 1) := by decide +kernel
theorem dX4_does_68 : decode cX4_does 68 = .ok (.istore_n 3, 1) := by decide +kernel
theorem dX4_does_69 : decode cX4_does 69 = .ok (.iconst 0, 1) := by decide +kernel
theorem dX4_does_70 : decode cX4_does 70 = .ok (.istore 4, 2) := by decide +kernel
theorem dX4_does_72 : decode cX4_does 72 = .ok (.iload 4, 2) := by decide +kernel
theorem dX4_does_74 : decode cX4_does 74 = .ok (.aload_n 0, 1) := by decide +kernel
theorem dX4_does_75 : decode cX4_does 75 = .ok (.getfield 112, 3) := by decide +kernel
theorem dX4_does_78 : decode cX4_does 78 = .ok (.if_icmp .ge 63, 3) := by decide +kernel
theorem dX4_does_81 : decode cX4_does 81 = .ok (.aload_n 0, 1) := by decide +kernel
theorem dX4_does_82 : decode cX4_does 82 = .ok (.getfield 55, 3) := by decide +kernel
theorem dX4_does_85 : decode cX4_does 85 = .ok (.ifCond .eq 20, 3) := by decide +kernel
theorem dX4_does_88 : decode cX4_does 88 = .ok (.aload_n 0, 1) := by decide +kernel
theorem dX4_does_89 : decode cX4_does 89 = .ok (.getfield 29, 3) := by decide +kernel
theorem dX4_does_92 : decode cX4_does 92 = .ok (.bipush 26, 2) := by decide +kernel
theorem dX4_does_94 : decode cX4_does 94 = .ok (.iload 4, 2) := by decide +kernel
theorem dX4_does_96 : decode cX4_does 96 = .ok (.imul, 1) := by decide +kernel
theorem dX4_does_97 : decode cX4_does 97 = .ok (.iload_n 2, 1) := by decide +kernel
theorem dX4_does_98 : decode cX4_does 98 = .ok (.iadd, 1) := by decide +kernel
theorem dX4_does_99 : decode cX4_does 99 = .ok (.laload, 1) := by decide +kernel
theorem dX4_does_100 : decode cX4_does 100 = .ok (.lconst 0, 1) := by decide +kernel
theorem dX4_does_101 : decode cX4_does 101 = .ok (.lcmp, 1) := by decide +kernel
theorem dX4_does_102 : decode cX4_does 102 = .ok (.ifCond .le 33, 3) := by decide +kernel
theorem dX4_does_105 : decode cX4_does 105 = .ok (.iload_n 3, 1) := by decide +kernel
theorem dX4_does_106 : decode cX4_does 106 = .ok (.iconst (-1), 1) := by decide +kernel
theorem dX4_does_107 : decode cX4_does 107 = .ok (.if_icmp .eq 25, 3) := by decide +kernel
theorem dX4_does_110 : decode cX4_does 110 = .ok (.aload_n 0, 1) := by decide +kernel
theorem dX4_does_111 : decode cX4_does 111 = .ok (.iload 4, 2) := by decide +kernel
theorem dX4_does_113 : decode cX4_does 113 = .ok (.iload_n 3, 1) := by decide +kernel
theorem dX4_does_114 : decode cX4_does 114 = .ok (.aload_n 0, 1) := by decide +kernel
theorem dX4_does_115 : decode cX4_does 115 = .ok (.getfield 55, 3) := by decide +kernel
theorem dX4_does_118 : decode cX4_does 118 = .ok (.ifCond .ne 7, 3) := by decide +kernel
theorem dX4_does_121 : decode cX4_does 121 = .ok (.iconst (-1), 1) := by decide +kernel
theorem dX4_does_122 : decode cX4_does 122 = .ok (.goto 4, 3) := by decide +kernel
theorem dX4_does_125 : decode cX4_does 125 = .ok (.iload_n 2, 1) := by decide +kernel
theorem dX4_does_126 : decode cX4_does 126 = .ok (.invokevirtual 137, 3) := by decide +kernel
theorem dX4_does_129 : decode cX4_does 129 = .ok (.ifCond .eq 6, 3) := by decide +kernel
theorem dX4_does_132 : decode cX4_does 132 = .ok (.iload 4, 2) := by decide +kernel
theorem dX4_does_134 : decode cX4_does 134 = .ok (.istore_n 3, 1) := by decide +kernel
theorem dX4_does_135 : decode cX4_does 135 = .ok (.iinc 4 1, 3) := by decide +kernel
theorem dX4_does_138 : decode cX4_does 138 = .ok (.goto (-66), 3) := by decide +kernel
theorem dX4_does_141 : decode cX4_does 141 = .ok (.iload_n 3, 1) := by decide +kernel
theorem dX4_does_142 : decode cX4_does 142 = .ok (.iconst (-1), 1) := by decide +kernel
theorem dX4_does_143 : decode cX4_does 143 = .ok (.if_icmp .ne 9, 3) := by decide +kernel
theorem dX4_does_146 : decode cX4_does 146 = .ok (.aload_n 0, 1) := by decide +kernel
theorem dX4_does_147 : decode cX4_does 147 = .ok (.iconst 1, 1) := by decide +kernel
theorem dX4_does_148 : decode cX4_does 148 = .ok (.putfield 52, 3) := by decide +kernel
theorem dX4_does_151 : decode cX4_does 151 = .ok (.return_, 1) := by decide +kernel
theorem dX4_does_152 : decode cX4_does 152 = .ok (.aload_n 0, 1) := by decide +kernel
theorem dX4_does_153 : decode cX4_does 153 = .ok (.iload_n 3, 1) := by decide +kernel
theorem dX4_does_154 : decode cX4_does 154 = .ok (.iload_n 2, 1) := by decide +kernel
theorem dX4_does_155 : decode cX4_does 155 = .ok (.invokevirtual 140, 3) := by decide +kernel
theorem dX4_does_158 : decode cX4_does 158 = .ok (.aload_n 0, 1) := by decide +kernel
theorem dX4_does_159 : decode cX4_does 159 = .ok (.getfield 36, 3) := by decide +kernel
theorem dX4_does_162 : decode cX4_does 162 = .ok (.aload_n 0, 1) := by decide +kernel
theorem dX4_does_163 : decode cX4_does 163 = .ok (.getfield 55, 3) := by decide +kernel
theorem dX4_does_166 : decode cX4_does 166 = .ok (.iload_n 1, 1) := by decide +kernel
theorem dX4_does_167 : decode cX4_does 167 = .ok (.iastore, 1) := by decide +kernel
theorem dX4_does_168 : decode cX4_does 168 = .ok (.aload_n 0, 1) := by decide +kernel
theorem dX4_does_169 : decode cX4_does 169 = .ok (.getfield 39, 3) := by decide +kernel
theorem dX4_does_172 : decode cX4_does 172 = .ok (.aload_n 0, 1) := by decide +kernel
theorem dX4_does_173 : decode cX4_does 173 = .ok (.getfield 55, 3) := by decide +kernel
theorem dX4_does_176 : decode cX4_does 176 = .ok (.aload_n 0, 1) := by decide +kernel
theorem dX4_does_177 : decode cX4_does 177 = .ok (.getfield 33, 3) := by decide +kernel
theorem dX4_does_180 : decode cX4_does 180 = .ok (.iload_n 3, 1) := by decide +kernel
theorem dX4_does_181 : decode cX4_does 181 = .ok (.iaload, 1) := by decide +kernel
theorem dX4_does_182 : decode cX4_does 182 = .ok (.iastore, 1) := by decide +kernel
theorem dX4_does_183 : decode cX4_does 183 = .ok (.aload_n 0, 1) := by decide +kernel
theorem dX4_does_184 : decode cX4_does 184 = .ok (.getfield 42, 3) := by decide +kernel
theorem dX4_does_187 : decode cX4_does 187 = .ok (.aload_n 0, 1) := by decide +kernel
theorem dX4_does_188 : decode cX4_does 188 = .ok (.getfield 55, 3) := by decide +kernel
theorem dX4_does_191 : decode cX4_does 191 = .ok (.iload_n 3, 1) := by decide +kernel
theorem dX4_does_192 : decode cX4_does 192 = .ok (.iastore, 1) := by decide +kernel
theorem dX4_does_193 : decode cX4_does 193 = .ok (.aload_n 0, 1) := by decide +kernel
theorem dX4_does_194 : decode cX4_does 194 = .ok (.getfield 33, 3) := by decide +kernel
theorem dX4_does_197 : decode cX4_does 197 = .ok (.iload_n 3, 1) := by decide +kernel
theorem dX4_does_198 : decode cX4_does 198 = .ok (.iload_n 1, 1) := by decide +kernel
theorem dX4_does_199 : decode cX4_does 199 = .ok (.iastore, 1) := by decide +kernel
theorem dX4_does_200 : decode cX4_does 200 = .ok (.aload_n 0, 1) := by decide +kernel
theorem dX4_does_201 : decode cX4_does 201 = .ok (.aload_n 0, 1) := by decide +kernel
theorem dX4_does_202 : decode cX4_does 202 = .ok (.getfield 39, 3) := by decide +kernel
theorem dX4_does_205 : decode cX4_does 205 = .ok (.aload_n 0, 1) := by decide +kernel
theorem dX4_does_206 : decode cX4_does 206 = .ok (.getfield 55, 3) := by decide +kernel
theorem dX4_does_209 : decode cX4_does 209 = .ok (.iaload, 1) := by decide +kernel
theorem dX4_does_210 : decode cX4_does 210 = .ok (.sipush 200, 3) := by decide +kernel
theorem dX4_does_213 : decode cX4_does 213 = .ok (.if_icmp .ne 7, 3) := by decide +kernel
theorem dX4_does_216 : decode cX4_does 216 = .ok (.iconst 1, 1) := by decide +kernel
theorem dX4_does_217 : decode cX4_does 217 = .ok (.goto 4, 3) := by decide +kernel
theorem dX4_does_220 : decode cX4_does 220 = .ok (.iconst 0, 1) := by decide +kernel
theorem dX4_does_221 : decode cX4_does 221 = .ok (.putfield 49, 3) := by decide +kernel
theorem dX4_does_224 : decode cX4_does 224 = .ok (.aload_n 0, 1) := by decide +kernel
theorem dX4_does_225 : decode cX4_does 225 = .ok (.dup, 1) := by decide +kernel
theorem dX4_does_226 : decode cX4_does 226 = .ok (.getfield 55, 3) := by decide +kernel
theorem dX4_does_229 : decode cX4_does 229 = .ok (.iconst 1, 1) := by decide +kernel
theorem dX4_does_230 : decode cX4_does 230 = .ok (.iadd, 1) := by decide +kernel
theorem dX4_does_231 : decode cX4_does 231 = .ok (.putfield 55, 3) := by decide +kernel
theorem dX4_does_234 : decode cX4_does 234 = .ok (.return_, 1) := by decide +kernel
theorem dX4_stands_0 : decode cX4_stands 0 = .ok (.aload_n 0, 1) := by decide +kernel
theorem dX4_stands_1 : decode cX4_stands 1 = .ok (.getfield 49, 3) := by decide +kernel
theorem dX4_stands_4 : decode cX4_stands 4 = .ok (.ifCond .eq 7, 3) := by decide +kernel
theorem dX4_stands_7 : decode cX4_stands 7 = .ok (.iconst 1, 1) := by decide +kernel
theorem dX4_stands_8 : decode cX4_stands 8 = .ok (.goto 15, 3) := by decide +kernel
theorem dX4_stands_11 : decode cX4_stands 11 = .ok (.aload_n 0, 1) := by decide +kernel
theorem dX4_stands_12 : decode cX4_stands 12 = .ok (.getfield 52, 3) := by decide +kernel
theorem dX4_stands_15 : decode cX4_stands 15 = .ok (.ifCond .eq 7, 3) := by decide +kernel
theorem dX4_stands_18 : decode cX4_stands 18 = .ok (.iconst 2, 1) := by decide +kernel
theorem dX4_stands_19 : decode cX4_stands 19 = .ok (.goto 4, 3) := by decide +kernel
theorem dX4_stands_22 : decode cX4_stands 22 = .ok (.iconst 0, 1) := by decide +kernel
theorem dX4_stands_23 : decode cX4_stands 23 = .ok (.ireturn, 1) := by decide +kernel
set_option maxRecDepth 20000 in
theorem ggX4_go_X4_in : GoodIn wsX4_go wsX4_in := goodIn_r _ [6] (by decide +kernel) (by decide +kernel)
set_option maxRecDepth 20000 in
theorem gX4_go_X4_in : GoodIn wsX4_go (va_wsS RX4 61 yX4_in wsX4_in) := goodIn_app (goodIn_of _ (by decide +kernel)) ggX4_go_X4_in
set_option maxRecDepth 20000 in
theorem ggX4_go_X4_stands : GoodIn wsX4_go wsX4_stands := goodIn_r _ [10, 11, 12, 61, 62, 63, 64, 65, 66, 67, 68, 69, 70, 71, 72, 73, 74, 75, 76, 77, 78, 79, 80] (by decide +kernel) (by decide +kernel)
set_option maxRecDepth 20000 in
theorem gX4_go_X4_stands : GoodIn wsX4_go (wsV RX4 144 RX4 yX4_stands wsX4_stands) := goodIn_app (goodIn_of _ (by decide +kernel)) ggX4_go_X4_stands
set_option maxRecDepth 20000 in
theorem ggX4_go_X4_does : GoodIn wsX4_go wsX4_does := goodIn_r _ [16, 2, 17, 18, 19, 12, 20, 21, 22, 11, 23, 24, 25, 5, 26, 27, 28, 29, 30, 31, 32, 33, 34, 35, 36, 37, 38, 39, 40, 41, 42, 43, 44, 45, 46, 47, 48, 49, 50, 51, 52, 53, 54, 55, 56, 57, 58, 59, 60, 61, 62, 63, 64, 65, 66, 67, 68, 69, 70, 71, 72, 73, 74, 75, 76, 77, 78, 79, 80] (by decide +kernel) (by decide +kernel)
set_option maxRecDepth 20000 in
theorem gX4_go_X4_does : GoodIn wsX4_go (wsV RX4 147 RX4 yX4_does wsX4_does) := goodIn_app (goodIn_of _ (by decide +kernel)) ggX4_go_X4_does
theorem dX4_go_0 : decode cX4_go 0 = .ok (.iload_n 1, 1) := by decide +kernel
theorem dX4_go_1 : decode cX4_go 1 = .ok (.iconst 1, 1) := by decide +kernel
theorem dX4_go_2 : decode cX4_go 2 = .ok (.bipush 60, 2) := by decide +kernel
theorem dX4_go_4 : decode cX4_go 4 = .ok (.invokestatic 61, 3) := by decide +kernel
theorem dX4_go_7 : decode cX4_go 7 = .ok (.ifCond .ne 6, 3) := by decide +kernel
theorem dX4_go_10 : decode cX4_go 10 = .ok (.bipush (-2), 2) := by decide +kernel
theorem dX4_go_12 : decode cX4_go 12 = .ok (.ireturn, 1) := by decide +kernel
theorem dX4_go_13 : decode cX4_go 13 = .ok (.aload_n 0, 1) := by decide +kernel
theorem dX4_go_14 : decode cX4_go 14 = .ok (.getfield 45, 3) := by decide +kernel
theorem dX4_go_17 : decode cX4_go 17 = .ok (.ifCond .ne 6, 3) := by decide +kernel
theorem dX4_go_20 : decode cX4_go 20 = .ok (.bipush (-3), 2) := by decide +kernel
theorem dX4_go_22 : decode cX4_go 22 = .ok (.ireturn, 1) := by decide +kernel
theorem dX4_go_23 : decode cX4_go 23 = .ok (.iconst 0, 1) := by decide +kernel
theorem dX4_go_24 : decode cX4_go 24 = .ok (.istore_n 2, 1) := by decide +kernel
theorem dX4_go_25 : decode cX4_go 25 = .ok (.iload_n 2, 1) := by decide +kernel
theorem dX4_go_26 : decode cX4_go 26 = .ok (.iload_n 1, 1) := by decide +kernel
theorem dX4_go_27 : decode cX4_go 27 = .ok (.if_icmp .ge 30, 3) := by decide +kernel
theorem dX4_go_30 : decode cX4_go 30 = .ok (.aload_n 0, 1) := by decide +kernel
theorem dX4_go_31 : decode cX4_go 31 = .ok (.invokevirtual 144, 3) := by decide +kernel
theorem dX4_go_34 : decode cX4_go 34 = .ok (.ifCond .ne 23, 3) := by decide +kernel
theorem dX4_go_37 : decode cX4_go 37 = .ok (.aload_n 0, 1) := by decide +kernel
theorem dX4_go_38 : decode cX4_go 38 = .ok (.getfield 55, 3) := by decide +kernel
theorem dX4_go_41 : decode cX4_go 41 = .ok (.sipush 200, 3) := by decide +kernel
theorem dX4_go_44 : decode cX4_go 44 = .ok (.if_icmp .ge 13, 3) := by decide +kernel
theorem dX4_go_47 : decode cX4_go 47 = .ok (.aload_n 0, 1) := by decide +kernel
theorem dX4_go_48 : decode cX4_go 48 = .ok (.invokevirtual 147, 3) := by decide +kernel
theorem dX4_go_51 : decode cX4_go 51 = .ok (.iinc 2 1, 3) := by decide +kernel
theorem dX4_go_54 : decode cX4_go 54 = .ok (.goto (-29), 3) := by decide +kernel
theorem dX4_go_57 : decode cX4_go 57 = .ok (.aload_n 0, 1) := by decide +kernel
theorem dX4_go_58 : decode cX4_go 58 = .ok (.invokevirtual 144, 3) := by decide +kernel
theorem dX4_go_61 : decode cX4_go 61 = .ok (.ireturn, 1) := by decide +kernel
set_option maxRecDepth 20000 in
theorem ggX4_step_X4_in : GoodIn wsX4_step wsX4_in := goodIn_r _ [8] (by decide +kernel) (by decide +kernel)
set_option maxRecDepth 20000 in
theorem gX4_step_X4_in : GoodIn wsX4_step (va_wsS RX4 61 yX4_in wsX4_in) := goodIn_app (goodIn_of _ (by decide +kernel)) ggX4_step_X4_in
theorem dX4_step_0 : decode cX4_step 0 = .ok (.iload_n 2, 1) := by decide +kernel
theorem dX4_step_1 : decode cX4_step 1 = .ok (.iconst 0, 1) := by decide +kernel
theorem dX4_step_2 : decode cX4_step 2 = .ok (.iconst 2, 1) := by decide +kernel
theorem dX4_step_3 : decode cX4_step 3 = .ok (.invokestatic 61, 3) := by decide +kernel
theorem dX4_step_6 : decode cX4_step 6 = .ok (.ifCond .ne 6, 3) := by decide +kernel
theorem dX4_step_9 : decode cX4_step 9 = .ok (.bipush (-2), 2) := by decide +kernel
theorem dX4_step_11 : decode cX4_step 11 = .ok (.ireturn, 1) := by decide +kernel
theorem dX4_step_12 : decode cX4_step 12 = .ok (.iload_n 1, 1) := by decide +kernel
theorem dX4_step_13 : decode cX4_step 13 = .ok (.iconst 0, 1) := by decide +kernel
theorem dX4_step_14 : decode cX4_step 14 = .ok (.aload_n 0, 1) := by decide +kernel
theorem dX4_step_15 : decode cX4_step 15 = .ok (.getfield 55, 3) := by decide +kernel
theorem dX4_step_18 : decode cX4_step 18 = .ok (.iconst 1, 1) := by decide +kernel
theorem dX4_step_19 : decode cX4_step 19 = .ok (.isub, 1) := by decide +kernel
theorem dX4_step_20 : decode cX4_step 20 = .ok (.invokestatic 61, 3) := by decide +kernel
theorem dX4_step_23 : decode cX4_step 23 = .ok (.ifCond .ne 7, 3) := by decide +kernel
theorem dX4_step_26 : decode cX4_step 26 = .ok (.iconst (-1), 1) := by decide +kernel
theorem dX4_step_27 : decode cX4_step 27 = .ok (.goto 36, 3) := by decide +kernel
theorem dX4_step_30 : decode cX4_step 30 = .ok (.iload_n 2, 1) := by decide +kernel
theorem dX4_step_31 : decode cX4_step 31 = .ok (.ifCond .ne 12, 3) := by decide +kernel
theorem dX4_step_34 : decode cX4_step 34 = .ok (.aload_n 0, 1) := by decide +kernel
theorem dX4_step_35 : decode cX4_step 35 = .ok (.getfield 36, 3) := by decide +kernel
theorem dX4_step_38 : decode cX4_step 38 = .ok (.iload_n 1, 1) := by decide +kernel
theorem dX4_step_39 : decode cX4_step 39 = .ok (.iaload, 1) := by decide +kernel
theorem dX4_step_40 : decode cX4_step 40 = .ok (.goto 23, 3) := by decide +kernel
theorem dX4_step_43 : decode cX4_step 43 = .ok (.iload_n 2, 1) := by decide +kernel
theorem dX4_step_44 : decode cX4_step 44 = .ok (.iconst 1, 1) := by decide +kernel
theorem dX4_step_45 : decode cX4_step 45 = .ok (.if_icmp .ne 12, 3) := by decide +kernel
theorem dX4_step_48 : decode cX4_step 48 = .ok (.aload_n 0, 1) := by decide +kernel
theorem dX4_step_49 : decode cX4_step 49 = .ok (.getfield 39, 3) := by decide +kernel
theorem dX4_step_52 : decode cX4_step 52 = .ok (.iload_n 1, 1) := by decide +kernel
theorem dX4_step_53 : decode cX4_step 53 = .ok (.iaload, 1) := by decide +kernel
theorem dX4_step_54 : decode cX4_step 54 = .ok (.goto 9, 3) := by decide +kernel
theorem dX4_step_57 : decode cX4_step 57 = .ok (.aload_n 0, 1) := by decide +kernel
theorem dX4_step_58 : decode cX4_step 58 = .ok (.getfield 42, 3) := by decide +kernel
theorem dX4_step_61 : decode cX4_step 61 = .ok (.iload_n 1, 1) := by decide +kernel
theorem dX4_step_62 : decode cX4_step 62 = .ok (.iaload, 1) := by decide +kernel
theorem dX4_step_63 : decode cX4_step 63 = .ok (.ireturn, 1) := by decide +kernel
set_option maxRecDepth 20000 in
theorem ggX4_told_X4_in : GoodIn wsX4_told wsX4_in := goodIn_r _ [7] (by decide +kernel) (by decide +kernel)
set_option maxRecDepth 20000 in
theorem gX4_told_X4_in : GoodIn wsX4_told (va_wsS RX4 61 yX4_in wsX4_in) := goodIn_app (goodIn_of _ (by decide +kernel)) ggX4_told_X4_in
theorem dX4_told_0 : decode cX4_told 0 = .ok (.aload_n 0, 1) := by decide +kernel
theorem dX4_told_1 : decode cX4_told 1 = .ok (.getfield 45, 3) := by decide +kernel
theorem dX4_told_4 : decode cX4_told 4 = .ok (.ifCond .eq 26, 3) := by decide +kernel
theorem dX4_told_7 : decode cX4_told 7 = .ok (.iload_n 1, 1) := by decide +kernel
theorem dX4_told_8 : decode cX4_told 8 = .ok (.iconst 0, 1) := by decide +kernel
theorem dX4_told_9 : decode cX4_told 9 = .ok (.aload_n 0, 1) := by decide +kernel
theorem dX4_told_10 : decode cX4_told 10 = .ok (.getfield 112, 3) := by decide +kernel
theorem dX4_told_13 : decode cX4_told 13 = .ok (.iconst 1, 1) := by decide +kernel
theorem dX4_told_14 : decode cX4_told 14 = .ok (.isub, 1) := by decide +kernel
theorem dX4_told_15 : decode cX4_told 15 = .ok (.invokestatic 61, 3) := by decide +kernel
theorem dX4_told_18 : decode cX4_told 18 = .ok (.ifCond .eq 12, 3) := by decide +kernel
theorem dX4_told_21 : decode cX4_told 21 = .ok (.aload_n 0, 1) := by decide +kernel
theorem dX4_told_22 : decode cX4_told 22 = .ok (.getfield 33, 3) := by decide +kernel
theorem dX4_told_25 : decode cX4_told 25 = .ok (.iload_n 1, 1) := by decide +kernel
theorem dX4_told_26 : decode cX4_told 26 = .ok (.iaload, 1) := by decide +kernel
theorem dX4_told_27 : decode cX4_told 27 = .ok (.goto 4, 3) := by decide +kernel
theorem dX4_told_30 : decode cX4_told 30 = .ok (.iconst (-1), 1) := by decide +kernel
theorem dX4_told_31 : decode cX4_told 31 = .ok (.ireturn, 1) := by decide +kernel
set_option maxRecDepth 20000 in
theorem ggX4_at_X4_in : GoodIn wsX4_at wsX4_in := goodIn_r _ [8] (by decide +kernel) (by decide +kernel)
set_option maxRecDepth 20000 in
theorem gX4_at_X4_in : GoodIn wsX4_at (va_wsS RX4 61 yX4_in wsX4_in) := goodIn_app (goodIn_of _ (by decide +kernel)) ggX4_at_X4_in
set_option maxRecDepth 20000 in
theorem ggX4_at_X4_columnQ : GoodIn wsX4_at wsX4_columnQ := goodIn_r _ [12, 2, 22, 23, 24, 25, 26, 27, 28, 29, 30, 31, 32, 33, 34, 35, 36, 37, 38, 39, 40, 41] (by decide +kernel) (by decide +kernel)
set_option maxRecDepth 20000 in
theorem gX4_at_X4_columnQ : GoodIn wsX4_at (wsV RX4 122 RX4 yX4_columnQ wsX4_columnQ) := goodIn_app (goodIn_of _ (by decide +kernel)) ggX4_at_X4_columnQ
set_option maxRecDepth 20000 in
theorem ggX4_at_X4_lowest : GoodIn wsX4_at wsX4_lowest := goodIn_r _ [15, 16, 17, 7, 18, 19, 20, 21] (by decide +kernel) (by decide +kernel)
set_option maxRecDepth 20000 in
theorem gX4_at_X4_lowest : GoodIn wsX4_at (va_wsS RX4 150 yX4_lowest wsX4_lowest) := goodIn_app (goodIn_of _ (by decide +kernel)) ggX4_at_X4_lowest
theorem dX4_at_0 : decode cX4_at 0 = .ok (.aload_n 0, 1) := by decide +kernel
theorem dX4_at_1 : decode cX4_at 1 = .ok (.getfield 45, 3) := by decide +kernel
theorem dX4_at_4 : decode cX4_at 4 = .ok (.ifCond .eq 51, 3) := by decide +kernel
theorem dX4_at_7 : decode cX4_at 7 = .ok (.iload_n 1, 1) := by decide +kernel
theorem dX4_at_8 : decode cX4_at 8 = .ok (.iconst 0, 1) := by decide +kernel
theorem dX4_at_9 : decode cX4_at 9 = .ok (.aload_n 0, 1) := by decide +kernel
theorem dX4_at_10 : decode cX4_at 10 = .ok (.getfield 112, 3) := by decide +kernel
theorem dX4_at_13 : decode cX4_at 13 = .ok (.iconst 1, 1) := by decide +kernel
theorem dX4_at_14 : decode cX4_at 14 = .ok (.isub, 1) := by decide +kernel
theorem dX4_at_15 : decode cX4_at 15 = .ok (.invokestatic 61, 3) := by decide +kernel
theorem dX4_at_18 : decode cX4_at 18 = .ok (.ifCond .eq 37, 3) := by decide +kernel
theorem dX4_at_21 : decode cX4_at 21 = .ok (.iload_n 2, 1) := by decide +kernel
theorem dX4_at_22 : decode cX4_at 22 = .ok (.iconst 0, 1) := by decide +kernel
theorem dX4_at_23 : decode cX4_at 23 = .ok (.aload_n 0, 1) := by decide +kernel
theorem dX4_at_24 : decode cX4_at 24 = .ok (.invokevirtual 122, 3) := by decide +kernel
theorem dX4_at_27 : decode cX4_at 27 = .ok (.invokestatic 61, 3) := by decide +kernel
theorem dX4_at_30 : decode cX4_at 30 = .ok (.ifCond .eq 25, 3) := by decide +kernel
theorem dX4_at_33 : decode cX4_at 33 = .ok (.aload_n 0, 1) := by decide +kernel
theorem dX4_at_34 : decode cX4_at 34 = .ok (.getfield 29, 3) := by decide +kernel
theorem dX4_at_37 : decode cX4_at 37 = .ok (.bipush 26, 2) := by decide +kernel
theorem dX4_at_39 : decode cX4_at 39 = .ok (.iload_n 1, 1) := by decide +kernel
theorem dX4_at_40 : decode cX4_at 40 = .ok (.imul, 1) := by decide +kernel
theorem dX4_at_41 : decode cX4_at 41 = .ok (.iload_n 2, 1) := by decide +kernel
theorem dX4_at_42 : decode cX4_at 42 = .ok (.iadd, 1) := by decide +kernel
theorem dX4_at_43 : decode cX4_at 43 = .ok (.laload, 1) := by decide +kernel
theorem dX4_at_44 : decode cX4_at 44 = .ok (.aload_n 0, 1) := by decide +kernel
theorem dX4_at_45 : decode cX4_at 45 = .ok (.getfield 115, 3) := by decide +kernel
theorem dX4_at_48 : decode cX4_at 48 = .ok (.iload_n 3, 1) := by decide +kernel
theorem dX4_at_49 : decode cX4_at 49 = .ok (.invokestatic 150, 3) := by decide +kernel
theorem dX4_at_52 : decode cX4_at 52 = .ok (.goto 4, 3) := by decide +kernel
theorem dX4_at_55 : decode cX4_at 55 = .ok (.lconst 0, 1) := by decide +kernel
theorem dX4_at_56 : decode cX4_at 56 = .ok (.lreturn, 1) := by decide +kernel
set_option maxRecDepth 20000 in
theorem ggX4_worthOf_X4_columnQ : GoodIn wsX4_worthOf wsX4_columnQ := goodIn_r _ [8, 1, 9, 10, 11, 12, 13, 14, 15, 16, 17, 18, 19, 20, 21, 22, 23, 24, 25, 26, 27, 28] (by decide +kernel) (by decide +kernel)
set_option maxRecDepth 20000 in
theorem gX4_worthOf_X4_columnQ : GoodIn wsX4_worthOf (wsV RX4 122 RX4 yX4_columnQ wsX4_columnQ) := goodIn_app (goodIn_of _ (by decide +kernel)) ggX4_worthOf_X4_columnQ
theorem dX4_worthOf_0 : decode cX4_worthOf 0 = .ok (.iconst 0, 1) := by decide +kernel
theorem dX4_worthOf_1 : decode cX4_worthOf 1 = .ok (.istore_n 2, 1) := by decide +kernel
theorem dX4_worthOf_2 : decode cX4_worthOf 2 = .ok (.iload_n 2, 1) := by decide +kernel
theorem dX4_worthOf_3 : decode cX4_worthOf 3 = .ok (.aload_n 0, 1) := by decide +kernel
theorem dX4_worthOf_4 : decode cX4_worthOf 4 = .ok (.getfield 112, 3) := by decide +kernel
theorem dX4_worthOf_7 : decode cX4_worthOf 7 = .ok (.if_icmp .ge 37, 3) := by decide +kernel
theorem dX4_worthOf_10 : decode cX4_worthOf 10 = .ok (.aload_n 0, 1) := by decide +kernel
theorem dX4_worthOf_11 : decode cX4_worthOf 11 = .ok (.getfield 33, 3) := by decide +kernel
theorem dX4_worthOf_14 : decode cX4_worthOf 14 = .ok (.iload_n 2, 1) := by decide +kernel
theorem dX4_worthOf_15 : decode cX4_worthOf 15 = .ok (.iaload, 1) := by decide +kernel
theorem dX4_worthOf_16 : decode cX4_worthOf 16 = .ok (.bipush 100, 2) := by decide +kernel
theorem dX4_worthOf_18 : decode cX4_worthOf 18 = .ok (.iload_n 1, 1) := by decide +kernel
theorem dX4_worthOf_19 : decode cX4_worthOf 19 = .ok (.iadd, 1) := by decide +kernel
theorem dX4_worthOf_20 : decode cX4_worthOf 20 = .ok (.if_icmp .ne 18, 3) := by decide +kernel
theorem dX4_worthOf_23 : decode cX4_worthOf 23 = .ok (.aload_n 0, 1) := by decide +kernel
theorem dX4_worthOf_24 : decode cX4_worthOf 24 = .ok (.getfield 29, 3) := by decide +kernel
theorem dX4_worthOf_27 : decode cX4_worthOf 27 = .ok (.bipush 26, 2) := by decide +kernel
theorem dX4_worthOf_29 : decode cX4_worthOf 29 = .ok (.iload_n 2, 1) := by decide +kernel
theorem dX4_worthOf_30 : decode cX4_worthOf 30 = .ok (.imul, 1) := by decide +kernel
theorem dX4_worthOf_31 : decode cX4_worthOf 31 = .ok (.aload_n 0, 1) := by decide +kernel
theorem dX4_worthOf_32 : decode cX4_worthOf 32 = .ok (.invokevirtual 122, 3) := by decide +kernel
theorem dX4_worthOf_35 : decode cX4_worthOf 35 = .ok (.iadd, 1) := by decide +kernel
theorem dX4_worthOf_36 : decode cX4_worthOf 36 = .ok (.laload, 1) := by decide +kernel
theorem dX4_worthOf_37 : decode cX4_worthOf 37 = .ok (.lreturn, 1) := by decide +kernel
theorem dX4_worthOf_38 : decode cX4_worthOf 38 = .ok (.iinc 2 1, 3) := by decide +kernel
theorem dX4_worthOf_41 : decode cX4_worthOf 41 = .ok (.goto (-39), 3) := by decide +kernel
theorem dX4_worthOf_44 : decode cX4_worthOf 44 = .ok (.lconst 0, 1) := by decide +kernel
theorem dX4_worthOf_45 : decode cX4_worthOf 45 = .ok (.lreturn, 1) := by decide +kernel
set_option maxRecDepth 20000 in
theorem ggX4_multiplier_X4_isPoint : GoodIn wsX4_multiplier wsX4_isPoint := goodIn_r _ [8, 9, 10, 11, 7, 12, 33, 34, 35, 36, 37, 38, 39, 40, 41, 42, 43, 44, 45, 46, 47, 48, 49, 50, 51, 52] (by decide +kernel) (by decide +kernel)
set_option maxRecDepth 20000 in
theorem gX4_multiplier_X4_isPoint : GoodIn wsX4_multiplier (wsV RX4 72 RX4 yX4_isPoint wsX4_isPoint) := goodIn_app (goodIn_of _ (by decide +kernel)) ggX4_multiplier_X4_isPoint
set_option maxRecDepth 20000 in
theorem ggX4_multiplier_X4_worthOf : GoodIn wsX4_multiplier wsX4_worthOf := goodIn_r _ [16, 17, 18, 19, 20, 21, 22, 7, 23, 33, 34, 35, 36, 37, 38, 39, 40, 41, 42, 43, 44, 45, 46, 47, 48, 49, 50, 51, 52] (by decide +kernel) (by decide +kernel)
set_option maxRecDepth 20000 in
theorem gX4_multiplier_X4_worthOf : GoodIn wsX4_multiplier (wsV RX4 154 RX4 yX4_worthOf wsX4_worthOf) := goodIn_app (goodIn_of _ (by decide +kernel)) ggX4_multiplier_X4_worthOf
set_option maxRecDepth 20000 in
theorem ggX4_multiplier_X4_lowest : GoodIn wsX4_multiplier wsX4_lowest := goodIn_r _ [26, 27, 28, 7, 29, 30, 31, 32] (by decide +kernel) (by decide +kernel)
set_option maxRecDepth 20000 in
theorem gX4_multiplier_X4_lowest : GoodIn wsX4_multiplier (va_wsS RX4 150 yX4_lowest wsX4_lowest) := goodIn_app (goodIn_of _ (by decide +kernel)) ggX4_multiplier_X4_lowest
theorem dX4_multiplier_0 : decode cX4_multiplier 0 = .ok (.aload_n 0, 1) := by decide +kernel
theorem dX4_multiplier_1 : decode cX4_multiplier 1 = .ok (.getfield 49, 3) := by decide +kernel
theorem dX4_multiplier_4 : decode cX4_multiplier 4 = .ok (.ifCond .eq 33, 3) := by decide +kernel
theorem dX4_multiplier_7 : decode cX4_multiplier 7 = .ok (.aload_n 0, 1) := by decide +kernel
theorem dX4_multiplier_8 : decode cX4_multiplier 8 = .ok (.iload_n 1, 1) := by decide +kernel
theorem dX4_multiplier_9 : decode cX4_multiplier 9 = .ok (.invokevirtual 72, 3) := by decide +kernel
theorem dX4_multiplier_12 : decode cX4_multiplier 12 = .ok (.ifCond .eq 25, 3) := by decide +kernel
theorem dX4_multiplier_15 : decode cX4_multiplier 15 = .ok (.aload_n 0, 1) := by decide +kernel
theorem dX4_multiplier_16 : decode cX4_multiplier 16 = .ok (.iload_n 1, 1) := by decide +kernel
theorem dX4_multiplier_17 : decode cX4_multiplier 17 = .ok (.invokevirtual 154, 3) := by decide +kernel
theorem dX4_multiplier_20 : decode cX4_multiplier 20 = .ok (.aload_n 0, 1) := by decide +kernel
theorem dX4_multiplier_21 : decode cX4_multiplier 21 = .ok (.getfield 115, 3) := by decide +kernel
theorem dX4_multiplier_24 : decode cX4_multiplier 24 = .ok (.aload_n 0, 1) := by decide +kernel
theorem dX4_multiplier_25 : decode cX4_multiplier 25 = .ok (.getfield 16, 3) := by decide +kernel
theorem dX4_multiplier_28 : decode cX4_multiplier 28 = .ok (.i2l, 1) := by decide +kernel
theorem dX4_multiplier_29 : decode cX4_multiplier 29 = .ok (.lmul, 1) := by decide +kernel
theorem dX4_multiplier_30 : decode cX4_multiplier 30 = .ok (.iload_n 2, 1) := by decide +kernel
theorem dX4_multiplier_31 : decode cX4_multiplier 31 = .ok (.invokestatic 150, 3) := by decide +kernel
theorem dX4_multiplier_34 : decode cX4_multiplier 34 = .ok (.goto 4, 3) := by decide +kernel
theorem dX4_multiplier_37 : decode cX4_multiplier 37 = .ok (.lconst 0, 1) := by decide +kernel
theorem dX4_multiplier_38 : decode cX4_multiplier 38 = .ok (.lreturn, 1) := by decide +kernel
set_option maxRecDepth 20000 in
theorem ggX4_liesOf_X4_worthOf : GoodIn wsX4_liesOf wsX4_worthOf := goodIn_r _ [7, 8, 9, 10, 11, 12, 13, 6, 14, 15, 16, 17, 18, 19, 20, 21, 22, 23, 24, 25, 26, 27, 28, 29, 30, 31, 32, 33, 34] (by decide +kernel) (by decide +kernel)
set_option maxRecDepth 20000 in
theorem gX4_liesOf_X4_worthOf : GoodIn wsX4_liesOf (wsV RX4 154 RX4 yX4_worthOf wsX4_worthOf) := goodIn_app (goodIn_of _ (by decide +kernel)) ggX4_liesOf_X4_worthOf
theorem dX4_liesOf_0 : decode cX4_liesOf 0 = .ok (.aload_n 0, 1) := by decide +kernel
theorem dX4_liesOf_1 : decode cX4_liesOf 1 = .ok (.iload_n 1, 1) := by decide +kernel
theorem dX4_liesOf_2 : decode cX4_liesOf 2 = .ok (.invokevirtual 154, 3) := by decide +kernel
theorem dX4_liesOf_5 : decode cX4_liesOf 5 = .ok (.lstore_n 2, 1) := by decide +kernel
theorem dX4_liesOf_6 : decode cX4_liesOf 6 = .ok (.lload_n 2, 1) := by decide +kernel
theorem dX4_liesOf_7 : decode cX4_liesOf 7 = .ok (.lconst 0, 1) := by decide +kernel
theorem dX4_liesOf_8 : decode cX4_liesOf 8 = .ok (.lcmp, 1) := by decide +kernel
theorem dX4_liesOf_9 : decode cX4_liesOf 9 = .ok (.ifCond .ne 7, 3) := by decide +kernel
theorem dX4_liesOf_12 : decode cX4_liesOf 12 = .ok (.iconst 0, 1) := by decide +kernel
theorem dX4_liesOf_13 : decode cX4_liesOf 13 = .ok (.goto 23, 3) := by decide +kernel
theorem dX4_liesOf_16 : decode cX4_liesOf 16 = .ok (.lload_n 2, 1) := by decide +kernel
theorem dX4_liesOf_17 : decode cX4_liesOf 17 = .ok (.aload_n 0, 1) := by decide +kernel
theorem dX4_liesOf_18 : decode cX4_liesOf 18 = .ok (.getfield 13, 3) := by decide +kernel
theorem dX4_liesOf_21 : decode cX4_liesOf 21 = .ok (.i2l, 1) := by decide +kernel
theorem dX4_liesOf_22 : decode cX4_liesOf 22 = .ok (.aload_n 0, 1) := by decide +kernel
theorem dX4_liesOf_23 : decode cX4_liesOf 23 = .ok (.getfield 115, 3) := by decide +kernel
theorem dX4_liesOf_26 : decode cX4_liesOf 26 = .ok (.lmul, 1) := by decide +kernel
theorem dX4_liesOf_27 : decode cX4_liesOf 27 = .ok (.lcmp, 1) := by decide +kernel
theorem dX4_liesOf_28 : decode cX4_liesOf 28 = .ok (.ifCond .ne 7, 3) := by decide +kernel
theorem dX4_liesOf_31 : decode cX4_liesOf 31 = .ok (.iconst 2, 1) := by decide +kernel
theorem dX4_liesOf_32 : decode cX4_liesOf 32 = .ok (.goto 4, 3) := by decide +kernel
theorem dX4_liesOf_35 : decode cX4_liesOf 35 = .ok (.iconst 1, 1) := by decide +kernel
theorem dX4_liesOf_36 : decode cX4_liesOf 36 = .ok (.ireturn, 1) := by decide +kernel
set_option maxRecDepth 20000 in
theorem ggX4_lies_X4_isPoint : GoodIn wsX4_lies wsX4_isPoint := goodIn_r _ [6, 7, 8, 9, 5, 10, 28, 29, 30, 31, 32, 33, 34, 35, 36, 37, 38, 39, 40, 41, 42, 43, 44, 45, 46, 47] (by decide +kernel) (by decide +kernel)
set_option maxRecDepth 20000 in
theorem gX4_lies_X4_isPoint : GoodIn wsX4_lies (wsV RX4 72 RX4 yX4_isPoint wsX4_isPoint) := goodIn_app (goodIn_of _ (by decide +kernel)) ggX4_lies_X4_isPoint
set_option maxRecDepth 20000 in
theorem ggX4_lies_X4_liesOf : GoodIn wsX4_lies wsX4_liesOf := goodIn_r _ [14, 15, 16, 17, 18, 19, 5, 20, 21, 22, 23, 24, 25, 26, 27, 28, 29, 30, 31, 32, 33, 34, 35, 36, 37, 38, 39, 40, 41, 42, 43, 44, 45, 46, 47] (by decide +kernel) (by decide +kernel)
set_option maxRecDepth 20000 in
theorem gX4_lies_X4_liesOf : GoodIn wsX4_lies (wsV RX4 158 RX4 yX4_liesOf wsX4_liesOf) := goodIn_app (goodIn_of _ (by decide +kernel)) ggX4_lies_X4_liesOf
theorem dX4_lies_0 : decode cX4_lies 0 = .ok (.aload_n 0, 1) := by decide +kernel
theorem dX4_lies_1 : decode cX4_lies 1 = .ok (.iload_n 1, 1) := by decide +kernel
theorem dX4_lies_2 : decode cX4_lies 2 = .ok (.invokevirtual 72, 3) := by decide +kernel
theorem dX4_lies_5 : decode cX4_lies 5 = .ok (.ifCond .ne 8, 3) := by decide +kernel
theorem dX4_lies_8 : decode cX4_lies 8 = .ok (.bipush (-2), 2) := by decide +kernel
theorem dX4_lies_10 : decode cX4_lies 10 = .ok (.goto 19, 3) := by decide +kernel
theorem dX4_lies_13 : decode cX4_lies 13 = .ok (.aload_n 0, 1) := by decide +kernel
theorem dX4_lies_14 : decode cX4_lies 14 = .ok (.getfield 49, 3) := by decide +kernel
theorem dX4_lies_17 : decode cX4_lies 17 = .ok (.ifCond .eq 11, 3) := by decide +kernel
theorem dX4_lies_20 : decode cX4_lies 20 = .ok (.aload_n 0, 1) := by decide +kernel
theorem dX4_lies_21 : decode cX4_lies 21 = .ok (.iload_n 1, 1) := by decide +kernel
theorem dX4_lies_22 : decode cX4_lies 22 = .ok (.invokevirtual 158, 3) := by decide +kernel
theorem dX4_lies_25 : decode cX4_lies 25 = .ok (.goto 4, 3) := by decide +kernel
theorem dX4_lies_28 : decode cX4_lies 28 = .ok (.iconst (-1), 1) := by decide +kernel
theorem dX4_lies_29 : decode cX4_lies 29 = .ok (.ireturn, 1) := by decide +kernel
set_option maxRecDepth 20000 in
theorem ggX4_slopeOf_X4_qOf : GoodIn wsX4_slopeOf wsX4_qOf := goodIn_r _ [8, 9, 10, 11, 12, 13, 14, 7, 15, 16, 28, 29, 30, 31, 32, 33, 34, 35, 36, 37, 38, 39, 40, 41, 42, 43, 44, 45, 46, 47] (by decide +kernel) (by decide +kernel)
set_option maxRecDepth 20000 in
theorem gX4_slopeOf_X4_qOf : GoodIn wsX4_slopeOf (wsV RX4 76 RX4 yX4_qOf wsX4_qOf) := goodIn_app (goodIn_of _ (by decide +kernel)) ggX4_slopeOf_X4_qOf
set_option maxRecDepth 20000 in
theorem ggX4_slopeOf_X4_worthOf : GoodIn wsX4_slopeOf wsX4_worthOf := goodIn_r _ [20, 21, 22, 23, 24, 25, 26, 7, 27, 28, 29, 30, 31, 32, 33, 34, 35, 36, 37, 38, 39, 40, 41, 42, 43, 44, 45, 46, 47] (by decide +kernel) (by decide +kernel)
set_option maxRecDepth 20000 in
theorem gX4_slopeOf_X4_worthOf : GoodIn wsX4_slopeOf (wsV RX4 154 RX4 yX4_worthOf wsX4_worthOf) := goodIn_app (goodIn_of _ (by decide +kernel)) ggX4_slopeOf_X4_worthOf
theorem dX4_slopeOf_0 : decode cX4_slopeOf 0 = .ok (.aload_n 0, 1) := by decide +kernel
theorem dX4_slopeOf_1 : decode cX4_slopeOf 1 = .ok (.getfield 115, 3) := by decide +kernel
theorem dX4_slopeOf_4 : decode cX4_slopeOf 4 = .ok (.aload_n 0, 1) := by decide +kernel
theorem dX4_slopeOf_5 : decode cX4_slopeOf 5 = .ok (.getfield 16, 3) := by decide +kernel
theorem dX4_slopeOf_8 : decode cX4_slopeOf 8 = .ok (.i2l, 1) := by decide +kernel
theorem dX4_slopeOf_9 : decode cX4_slopeOf 9 = .ok (.lmul, 1) := by decide +kernel
theorem dX4_slopeOf_10 : decode cX4_slopeOf 10 = .ok (.lstore_n 2, 1) := by decide +kernel
theorem dX4_slopeOf_11 : decode cX4_slopeOf 11 = .ok (.iconst 0, 1) := by decide +kernel
theorem dX4_slopeOf_12 : decode cX4_slopeOf 12 = .ok (.istore 4, 2) := by decide +kernel
theorem dX4_slopeOf_14 : decode cX4_slopeOf 14 = .ok (.iload 4, 2) := by decide +kernel
theorem dX4_slopeOf_16 : decode cX4_slopeOf 16 = .ok (.aload_n 0, 1) := by decide +kernel
theorem dX4_slopeOf_17 : decode cX4_slopeOf 17 = .ok (.getfield 58, 3) := by decide +kernel
theorem dX4_slopeOf_20 : decode cX4_slopeOf 20 = .ok (.if_icmp .ge 27, 3) := by decide +kernel
theorem dX4_slopeOf_23 : decode cX4_slopeOf 23 = .ok (.lload_n 2, 1) := by decide +kernel
theorem dX4_slopeOf_24 : decode cX4_slopeOf 24 = .ok (.aload_n 0, 1) := by decide +kernel
theorem dX4_slopeOf_25 : decode cX4_slopeOf 25 = .ok (.iload_n 1, 1) := by decide +kernel
theorem dX4_slopeOf_26 : decode cX4_slopeOf 26 = .ok (.iload 4, 2) := by decide +kernel
theorem dX4_slopeOf_28 : decode cX4_slopeOf 28 = .ok (.invokevirtual 76, 3) := by decide +kernel
theorem dX4_slopeOf_31 : decode cX4_slopeOf 31 = .ok (.i2l, 1) := by decide +kernel
theorem dX4_slopeOf_32 : decode cX4_slopeOf 32 = .ok (.aload_n 0, 1) := by decide +kernel
theorem dX4_slopeOf_33 : decode cX4_slopeOf 33 = .ok (.iload 4, 2) := by decide +kernel
theorem dX4_slopeOf_35 : decode cX4_slopeOf 35 = .ok (.invokevirtual 154, 3) := by decide +kernel
theorem dX4_slopeOf_38 : decode cX4_slopeOf 38 = .ok (.lmul, 1) := by decide +kernel
theorem dX4_slopeOf_39 : decode cX4_slopeOf 39 = .ok (.lsub, 1) := by decide +kernel
theorem dX4_slopeOf_40 : decode cX4_slopeOf 40 = .ok (.lstore_n 2, 1) := by decide +kernel
theorem dX4_slopeOf_41 : decode cX4_slopeOf 41 = .ok (.iinc 4 1, 3) := by decide +kernel
theorem dX4_slopeOf_44 : decode cX4_slopeOf 44 = .ok (.goto (-30), 3) := by decide +kernel
theorem dX4_slopeOf_47 : decode cX4_slopeOf 47 = .ok (.lload_n 2, 1) := by decide +kernel
theorem dX4_slopeOf_48 : decode cX4_slopeOf 48 = .ok (.lreturn, 1) := by decide +kernel
set_option maxRecDepth 20000 in
theorem ggX4_slope_X4_isPoint : GoodIn wsX4_slope wsX4_isPoint := goodIn_r _ [8, 9, 10, 11, 7, 12, 49, 50, 51, 52, 53, 54, 55, 56, 57, 58, 59, 60, 61, 62, 63, 64, 65, 66, 67, 68] (by decide +kernel) (by decide +kernel)
set_option maxRecDepth 20000 in
theorem gX4_slope_X4_isPoint : GoodIn wsX4_slope (wsV RX4 72 RX4 yX4_isPoint wsX4_isPoint) := goodIn_app (goodIn_of _ (by decide +kernel)) ggX4_slope_X4_isPoint
set_option maxRecDepth 20000 in
theorem ggX4_slope_X4_slopeOf : GoodIn wsX4_slope wsX4_slopeOf := goodIn_r _ [16, 2, 3, 9, 17, 18, 19, 7, 20, 21, 22, 23, 24, 25, 26, 27, 28, 29, 30, 31, 32, 33, 34, 35, 36, 37, 38, 39, 49, 50, 51, 52, 53, 54, 55, 56, 57, 58, 59, 60, 61, 62, 63, 64, 65, 66, 67, 68] (by decide +kernel) (by decide +kernel)
set_option maxRecDepth 20000 in
theorem gX4_slope_X4_slopeOf : GoodIn wsX4_slope (wsV RX4 161 RX4 yX4_slopeOf wsX4_slopeOf) := goodIn_app (goodIn_of _ (by decide +kernel)) ggX4_slope_X4_slopeOf
set_option maxRecDepth 20000 in
theorem ggX4_slope_X4_lowest : GoodIn wsX4_slope wsX4_lowest := goodIn_r _ [42, 43, 44, 7, 45, 46, 47, 48] (by decide +kernel) (by decide +kernel)
set_option maxRecDepth 20000 in
theorem gX4_slope_X4_lowest : GoodIn wsX4_slope (va_wsS RX4 150 yX4_lowest wsX4_lowest) := goodIn_app (goodIn_of _ (by decide +kernel)) ggX4_slope_X4_lowest
theorem dX4_slope_0 : decode cX4_slope 0 = .ok (.aload_n 0, 1) := by decide +kernel
theorem dX4_slope_1 : decode cX4_slope 1 = .ok (.getfield 49, 3) := by decide +kernel
theorem dX4_slope_4 : decode cX4_slope 4 = .ok (.ifCond .eq 33, 3) := by decide +kernel
theorem dX4_slope_7 : decode cX4_slope 7 = .ok (.aload_n 0, 1) := by decide +kernel
theorem dX4_slope_8 : decode cX4_slope 8 = .ok (.iload_n 1, 1) := by decide +kernel
theorem dX4_slope_9 : decode cX4_slope 9 = .ok (.invokevirtual 72, 3) := by decide +kernel
theorem dX4_slope_12 : decode cX4_slope 12 = .ok (.ifCond .eq 25, 3) := by decide +kernel
theorem dX4_slope_15 : decode cX4_slope 15 = .ok (.aload_n 0, 1) := by decide +kernel
theorem dX4_slope_16 : decode cX4_slope 16 = .ok (.iload_n 1, 1) := by decide +kernel
theorem dX4_slope_17 : decode cX4_slope 17 = .ok (.invokevirtual 161, 3) := by decide +kernel
theorem dX4_slope_20 : decode cX4_slope 20 = .ok (.aload_n 0, 1) := by decide +kernel
theorem dX4_slope_21 : decode cX4_slope 21 = .ok (.getfield 115, 3) := by decide +kernel
theorem dX4_slope_24 : decode cX4_slope 24 = .ok (.aload_n 0, 1) := by decide +kernel
theorem dX4_slope_25 : decode cX4_slope 25 = .ok (.getfield 16, 3) := by decide +kernel
theorem dX4_slope_28 : decode cX4_slope 28 = .ok (.i2l, 1) := by decide +kernel
theorem dX4_slope_29 : decode cX4_slope 29 = .ok (.lmul, 1) := by decide +kernel
theorem dX4_slope_30 : decode cX4_slope 30 = .ok (.iload_n 2, 1) := by decide +kernel
theorem dX4_slope_31 : decode cX4_slope 31 = .ok (.invokestatic 150, 3) := by decide +kernel
theorem dX4_slope_34 : decode cX4_slope 34 = .ok (.goto 4, 3) := by decide +kernel
theorem dX4_slope_37 : decode cX4_slope 37 = .ok (.lconst 0, 1) := by decide +kernel
theorem dX4_slope_38 : decode cX4_slope 38 = .ok (.lreturn, 1) := by decide +kernel
set_option maxRecDepth 20000 in
theorem ggX4_check_X4_liesOf : GoodIn wsX4_check wsX4_liesOf := goodIn_r _ [7, 8, 9, 10, 11, 12, 6, 13, 14, 15, 16, 17, 18, 19, 20, 38, 39, 40, 41, 42, 43, 44, 45, 46, 47, 48, 49, 50, 51, 52, 53, 54, 55, 56, 57] (by decide +kernel) (by decide +kernel)
set_option maxRecDepth 20000 in
theorem gX4_check_X4_liesOf : GoodIn wsX4_check (wsV RX4 158 RX4 yX4_liesOf wsX4_liesOf) := goodIn_app (goodIn_of _ (by decide +kernel)) ggX4_check_X4_liesOf
set_option maxRecDepth 20000 in
theorem ggX4_check_X4_slopeOf : GoodIn wsX4_check wsX4_slopeOf := goodIn_r _ [24, 9, 25, 2, 26, 27, 28, 6, 29, 30, 31, 32, 33, 34, 35, 36, 37, 10, 11, 12, 13, 14, 15, 16, 17, 18, 19, 20, 38, 39, 40, 41, 42, 43, 44, 45, 46, 47, 48, 49, 50, 51, 52, 53, 54, 55, 56, 57] (by decide +kernel) (by decide +kernel)
set_option maxRecDepth 20000 in
theorem gX4_check_X4_slopeOf : GoodIn wsX4_check (wsV RX4 161 RX4 yX4_slopeOf wsX4_slopeOf) := goodIn_app (goodIn_of _ (by decide +kernel)) ggX4_check_X4_slopeOf
theorem dX4_check_0 : decode cX4_check 0 = .ok (.aload_n 0, 1) := by decide +kernel
theorem dX4_check_1 : decode cX4_check 1 = .ok (.getfield 49, 3) := by decide +kernel
theorem dX4_check_4 : decode cX4_check 4 = .ok (.ifCond .ne 6, 3) := by decide +kernel
theorem dX4_check_7 : decode cX4_check 7 = .ok (.bipush (-3), 2) := by decide +kernel
theorem dX4_check_9 : decode cX4_check 9 = .ok (.ireturn, 1) := by decide +kernel
theorem dX4_check_10 : decode cX4_check 10 = .ok (.iconst 0, 1) := by decide +kernel
theorem dX4_check_11 : decode cX4_check 11 = .ok (.istore_n 1, 1) := by decide +kernel
theorem dX4_check_12 : decode cX4_check 12 = .ok (.iload_n 1, 1) := by decide +kernel
theorem dX4_check_13 : decode cX4_check 13 = .ok (.aload_n 0, 1) := by decide +kernel
theorem dX4_check_14 : decode cX4_check 14 = .ok (.getfield 58, 3) := by decide +kernel
theorem dX4_check_17 : decode cX4_check 17 = .ok (.if_icmp .ge 56, 3) := by decide +kernel
theorem dX4_check_20 : decode cX4_check 20 = .ok (.aload_n 0, 1) := by decide +kernel
theorem dX4_check_21 : decode cX4_check 21 = .ok (.iload_n 1, 1) := by decide +kernel
theorem dX4_check_22 : decode cX4_check 22 = .ok (.invokevirtual 158, 3) := by decide +kernel
theorem dX4_check_25 : decode cX4_check 25 = .ok (.istore_n 2, 1) := by decide +kernel
theorem dX4_check_26 : decode cX4_check 26 = .ok (.aload_n 0, 1) := by decide +kernel
theorem dX4_check_27 : decode cX4_check 27 = .ok (.iload_n 1, 1) := by decide +kernel
theorem dX4_check_28 : decode cX4_check 28 = .ok (.invokevirtual 161, 3) := by decide +kernel
theorem dX4_check_31 : decode cX4_check 31 = .ok (.lstore_n 3, 1) := by decide +kernel
theorem dX4_check_32 : decode cX4_check 32 = .ok (.iload_n 2, 1) := by decide +kernel
theorem dX4_check_33 : decode cX4_check 33 = .ok (.ifCond .ne 12, 3) := by decide +kernel
theorem dX4_check_36 : decode cX4_check 36 = .ok (.lload_n 3, 1) := by decide +kernel
theorem dX4_check_37 : decode cX4_check 37 = .ok (.lconst 0, 1) := by decide +kernel
theorem dX4_check_38 : decode cX4_check 38 = .ok (.lcmp, 1) := by decide +kernel
theorem dX4_check_39 : decode cX4_check 39 = .ok (.ifCond .le 28, 3) := by decide +kernel
theorem dX4_check_42 : decode cX4_check 42 = .ok (.goto 23, 3) := by decide +kernel
theorem dX4_check_45 : decode cX4_check 45 = .ok (.iload_n 2, 1) := by decide +kernel
theorem dX4_check_46 : decode cX4_check 46 = .ok (.iconst 2, 1) := by decide +kernel
theorem dX4_check_47 : decode cX4_check 47 = .ok (.if_icmp .ne 12, 3) := by decide +kernel
theorem dX4_check_50 : decode cX4_check 50 = .ok (.lload_n 3, 1) := by decide +kernel
theorem dX4_check_51 : decode cX4_check 51 = .ok (.lconst 0, 1) := by decide +kernel
theorem dX4_check_52 : decode cX4_check 52 = .ok (.lcmp, 1) := by decide +kernel
theorem dX4_check_53 : decode cX4_check 53 = .ok (.ifCond .ge 14, 3) := by decide +kernel
theorem dX4_check_56 : decode cX4_check 56 = .ok (.goto 9, 3) := by decide +kernel
theorem dX4_check_59 : decode cX4_check 59 = .ok (.lload_n 3, 1) := by decide +kernel
theorem dX4_check_60 : decode cX4_check 60 = .ok (.lconst 0, 1) := by decide +kernel
theorem dX4_check_61 : decode cX4_check 61 = .ok (.lcmp, 1) := by decide +kernel
theorem dX4_check_62 : decode cX4_check 62 = .ok (.ifCond .eq 5, 3) := by decide +kernel
theorem dX4_check_65 : decode cX4_check 65 = .ok (.iconst 0, 1) := by decide +kernel
theorem dX4_check_66 : decode cX4_check 66 = .ok (.ireturn, 1) := by decide +kernel
theorem dX4_check_67 : decode cX4_check 67 = .ok (.iinc 1 1, 3) := by decide +kernel
theorem dX4_check_70 : decode cX4_check 70 = .ok (.goto (-58), 3) := by decide +kernel
theorem dX4_check_73 : decode cX4_check 73 = .ok (.iconst 1, 1) := by decide +kernel
theorem dX4_check_74 : decode cX4_check 74 = .ok (.ireturn, 1) := by decide +kernel
set_option maxRecDepth 20000 in
theorem ggX4_change_X4_isPoint : GoodIn wsX4_change wsX4_isPoint := goodIn_r _ [10, 11, 12, 13, 9, 14, 58, 59, 60, 61, 62, 63, 64, 65, 66, 67, 68, 69, 70, 71, 72, 73, 74, 75, 76, 77] (by decide +kernel) (by decide +kernel)
set_option maxRecDepth 20000 in
theorem gX4_change_X4_isPoint : GoodIn wsX4_change (wsV RX4 72 RX4 yX4_isPoint wsX4_isPoint) := goodIn_app (goodIn_of _ (by decide +kernel)) ggX4_change_X4_isPoint
set_option maxRecDepth 20000 in
theorem ggX4_change_X4_in : GoodIn wsX4_change wsX4_in := goodIn_r _ [14] (by decide +kernel) (by decide +kernel)
set_option maxRecDepth 20000 in
theorem gX4_change_X4_in : GoodIn wsX4_change (va_wsS RX4 61 yX4_in wsX4_in) := goodIn_app (goodIn_of _ (by decide +kernel)) ggX4_change_X4_in
set_option maxRecDepth 20000 in
theorem ggX4_change_X4_worthOf : GoodIn wsX4_change wsX4_worthOf := goodIn_r _ [18, 19, 20, 21, 22, 23, 24, 9, 25, 58, 59, 60, 61, 62, 63, 64, 65, 66, 67, 68, 69, 70, 71, 72, 73, 74, 75, 76, 77] (by decide +kernel) (by decide +kernel)
set_option maxRecDepth 20000 in
theorem gX4_change_X4_worthOf : GoodIn wsX4_change (wsV RX4 154 RX4 yX4_worthOf wsX4_worthOf) := goodIn_app (goodIn_of _ (by decide +kernel)) ggX4_change_X4_worthOf
set_option maxRecDepth 20000 in
theorem ggX4_change_X4_slopeOf : GoodIn wsX4_change wsX4_slopeOf := goodIn_r _ [29, 4, 1, 11, 30, 31, 32, 9, 33, 34, 35, 36, 37, 38, 39, 40, 41, 15, 16, 17, 18, 19, 20, 21, 22, 23, 24, 25, 58, 59, 60, 61, 62, 63, 64, 65, 66, 67, 68, 69, 70, 71, 72, 73, 74, 75, 76, 77] (by decide +kernel) (by decide +kernel)
set_option maxRecDepth 20000 in
theorem gX4_change_X4_slopeOf : GoodIn wsX4_change (wsV RX4 161 RX4 yX4_slopeOf wsX4_slopeOf) := goodIn_app (goodIn_of _ (by decide +kernel)) ggX4_change_X4_slopeOf
set_option maxRecDepth 20000 in
theorem ggX4_change_X4_qOf : GoodIn wsX4_change wsX4_qOf := goodIn_r _ [33, 34, 35, 36, 37, 38, 39, 9, 40, 41, 58, 59, 60, 61, 62, 63, 64, 65, 66, 67, 68, 69, 70, 71, 72, 73, 74, 75, 76, 77] (by decide +kernel) (by decide +kernel)
set_option maxRecDepth 20000 in
theorem gX4_change_X4_qOf : GoodIn wsX4_change (wsV RX4 76 RX4 yX4_qOf wsX4_qOf) := goodIn_app (goodIn_of _ (by decide +kernel)) ggX4_change_X4_qOf
set_option maxRecDepth 20000 in
theorem ggX4_change_X4_signOfCross : GoodIn wsX4_change wsX4_signOfCross := goodIn_r _ [45, 46, 47, 48, 49, 50, 9, 51, 52, 53, 54, 55, 56, 57, 58, 59, 60, 61, 62, 63, 64, 65, 66, 67, 68, 69, 70, 71, 72, 73, 74, 75, 76, 77] (by decide +kernel) (by decide +kernel)
set_option maxRecDepth 20000 in
theorem gX4_change_X4_signOfCross : GoodIn wsX4_change (wsV RX4 126 RX4 yX4_signOfCross wsX4_signOfCross) := goodIn_app (goodIn_of _ (by decide +kernel)) ggX4_change_X4_signOfCross
theorem dX4_change_0 : decode cX4_change 0 = .ok (.aload_n 0, 1) := by decide +kernel
theorem dX4_change_1 : decode cX4_change 1 = .ok (.iload_n 1, 1) := by decide +kernel
theorem dX4_change_2 : decode cX4_change 2 = .ok (.invokevirtual 72, 3) := by decide +kernel
theorem dX4_change_5 : decode cX4_change 5 = .ok (.ifCond .eq 37, 3) := by decide +kernel
theorem dX4_change_8 : decode cX4_change 8 = .ok (.iload_n 3, 1) := by decide +kernel
theorem dX4_change_9 : decode cX4_change 9 = .ok (.iconst 1, 1) := by decide +kernel
theorem dX4_change_10 : decode cX4_change 10 = .ok (.bipush 6, 2) := by decide +kernel
theorem dX4_change_12 : decode cX4_change 12 = .ok (.invokestatic 61, 3) := by decide +kernel
theorem dX4_change_15 : decode cX4_change 15 = .ok (.ifCond .eq 27, 3) := by decide +kernel
theorem dX4_change_18 : decode cX4_change 18 = .ok (.iload_n 2, 1) := by decide +kernel
theorem dX4_change_19 : decode cX4_change 19 = .ok (.ifCond .lt 23, 3) := by decide +kernel
theorem dX4_change_22 : decode cX4_change 22 = .ok (.iload_n 2, 1) := by decide +kernel
theorem dX4_change_23 : decode cX4_change 23 = .ok (.i2l, 1) := by decide +kernel
theorem dX4_change_24 : decode cX4_change 24 = .ok (.aload_n 0, 1) := by decide +kernel
theorem dX4_change_25 : decode cX4_change 25 = .ok (.getfield 16, 3) := by decide +kernel
theorem dX4_change_28 : decode cX4_change 28 = .ok (.i2l, 1) := by decide +kernel
theorem dX4_change_29 : decode cX4_change 29 = .ok (.lmul, 1) := by decide +kernel
theorem dX4_change_30 : decode cX4_change 30 = .ok (.aload_n 0, 1) := by decide +kernel
theorem dX4_change_31 : decode cX4_change 31 = .ok (.getfield 13, 3) := by decide +kernel
theorem dX4_change_34 : decode cX4_change 34 = .ok (.i2l, 1) := by decide +kernel
theorem dX4_change_35 : decode cX4_change 35 = .ok (.iload_n 3, 1) := by decide +kernel
theorem dX4_change_36 : decode cX4_change 36 = .ok (.i2l, 1) := by decide +kernel
theorem dX4_change_37 : decode cX4_change 37 = .ok (.lmul, 1) := by decide +kernel
theorem dX4_change_38 : decode cX4_change 38 = .ok (.lcmp, 1) := by decide +kernel
theorem dX4_change_39 : decode cX4_change 39 = .ok (.ifCond .le 6, 3) := by decide +kernel
theorem dX4_change_42 : decode cX4_change 42 = .ok (.bipush (-2), 2) := by decide +kernel
theorem dX4_change_44 : decode cX4_change 44 = .ok (.ireturn, 1) := by decide +kernel
theorem dX4_change_45 : decode cX4_change 45 = .ok (.aload_n 0, 1) := by decide +kernel
theorem dX4_change_46 : decode cX4_change 46 = .ok (.getfield 49, 3) := by decide +kernel
theorem dX4_change_49 : decode cX4_change 49 = .ok (.ifCond .ne 6, 3) := by decide +kernel
theorem dX4_change_52 : decode cX4_change 52 = .ok (.bipush (-3), 2) := by decide +kernel
theorem dX4_change_54 : decode cX4_change 54 = .ok (.ireturn, 1) := by decide +kernel
theorem dX4_change_55 : decode cX4_change 55 = .ok (.iload_n 2, 1) := by decide +kernel
theorem dX4_change_56 : decode cX4_change 56 = .ok (.i2l, 1) := by decide +kernel
theorem dX4_change_57 : decode cX4_change 57 = .ok (.aload_n 0, 1) := by decide +kernel
theorem dX4_change_58 : decode cX4_change 58 = .ok (.getfield 115, 3) := by decide +kernel
theorem dX4_change_61 : decode cX4_change 61 = .ok (.lmul, 1) := by decide +kernel
theorem dX4_change_62 : decode cX4_change 62 = .ok (.aload_n 0, 1) := by decide +kernel
theorem dX4_change_63 : decode cX4_change 63 = .ok (.getfield 16, 3) := by decide +kernel
theorem dX4_change_66 : decode cX4_change 66 = .ok (.i2l, 1) := by decide +kernel
theorem dX4_change_67 : decode cX4_change 67 = .ok (.lmul, 1) := by decide +kernel
theorem dX4_change_68 : decode cX4_change 68 = .ok (.aload_n 0, 1) := by decide +kernel
theorem dX4_change_69 : decode cX4_change 69 = .ok (.iload_n 1, 1) := by decide +kernel
theorem dX4_change_70 : decode cX4_change 70 = .ok (.invokevirtual 154, 3) := by decide +kernel
theorem dX4_change_73 : decode cX4_change 73 = .ok (.iload_n 3, 1) := by decide +kernel
theorem dX4_change_74 : decode cX4_change 74 = .ok (.i2l, 1) := by decide +kernel
theorem dX4_change_75 : decode cX4_change 75 = .ok (.lmul, 1) := by decide +kernel
theorem dX4_change_76 : decode cX4_change 76 = .ok (.lsub, 1) := by decide +kernel
theorem dX4_change_77 : decode cX4_change 77 = .ok (.lstore 4, 2) := by decide +kernel
theorem dX4_change_79 : decode cX4_change 79 = .ok (.aload_n 0, 1) := by decide +kernel
theorem dX4_change_80 : decode cX4_change 80 = .ok (.aload_n 0, 1) := by decide +kernel
theorem dX4_change_81 : decode cX4_change 81 = .ok (.iload_n 1, 1) := by decide +kernel
theorem dX4_change_82 : decode cX4_change 82 = .ok (.invokevirtual 161, 3) := by decide +kernel
theorem dX4_change_85 : decode cX4_change 85 = .ok (.ldc2_w 100, 3) := by decide +kernel
theorem dX4_change_88 : decode cX4_change 88 = .ok (.iload_n 3, 1) := by decide +kernel
theorem dX4_change_89 : decode cX4_change 89 = .ok (.i2l, 1) := by decide +kernel
theorem dX4_change_90 : decode cX4_change 90 = .ok (.lmul, 1) := by decide +kernel
theorem dX4_change_91 : decode cX4_change 91 = .ok (.lload 4, 2) := by decide +kernel
theorem dX4_change_93 : decode cX4_change 93 = .ok (.aload_n 0, 1) := by decide +kernel
theorem dX4_change_94 : decode cX4_change 94 = .ok (.iload_n 1, 1) := by decide +kernel
theorem dX4_change_95 : decode cX4_change 95 = .ok (.iload_n 1, 1) := by decide +kernel
theorem dX4_change_96 : decode cX4_change 96 = .ok (.invokevirtual 76, 3) := by decide +kernel
theorem dX4_change_99 : decode cX4_change 99 = .ok (.i2l, 1) := by decide +kernel
theorem dX4_change_100 : decode cX4_change 100 = .ok (.invokevirtual 126, 3) := by decide +kernel
theorem dX4_change_103 : decode cX4_change 103 = .ok (.istore 6, 2) := by decide +kernel
theorem dX4_change_105 : decode cX4_change 105 = .ok (.lload 4, 2) := by decide +kernel
theorem dX4_change_107 : decode cX4_change 107 = .ok (.lconst 0, 1) := by decide +kernel
theorem dX4_change_108 : decode cX4_change 108 = .ok (.lcmp, 1) := by decide +kernel
theorem dX4_change_109 : decode cX4_change 109 = .ok (.ifCond .le 8, 3) := by decide +kernel
theorem dX4_change_112 : decode cX4_change 112 = .ok (.iload 6, 2) := by decide +kernel
theorem dX4_change_114 : decode cX4_change 114 = .ok (.goto 17, 3) := by decide +kernel
theorem dX4_change_117 : decode cX4_change 117 = .ok (.lload 4, 2) := by decide +kernel
theorem dX4_change_119 : decode cX4_change 119 = .ok (.lconst 0, 1) := by decide +kernel
theorem dX4_change_120 : decode cX4_change 120 = .ok (.lcmp, 1) := by decide +kernel
theorem dX4_change_121 : decode cX4_change 121 = .ok (.ifCond .ge 9, 3) := by decide +kernel
theorem dX4_change_124 : decode cX4_change 124 = .ok (.iload 6, 2) := by decide +kernel
theorem dX4_change_126 : decode cX4_change 126 = .ok (.ineg, 1) := by decide +kernel
theorem dX4_change_127 : decode cX4_change 127 = .ok (.goto 4, 3) := by decide +kernel
theorem dX4_change_130 : decode cX4_change 130 = .ok (.iconst 0, 1) := by decide +kernel
theorem dX4_change_131 : decode cX4_change 131 = .ok (.ireturn, 1) := by decide +kernel
set_option maxRecDepth 20000 in
theorem ggX4_decisionOf_X4_worthOf : GoodIn wsX4_decisionOf wsX4_worthOf := goodIn_r _ [7, 8, 9, 10, 11, 12, 13, 6, 14, 22, 23, 24, 25, 26, 27, 28, 29, 30, 31, 32, 33, 34, 35, 36, 37, 38, 39, 40, 41] (by decide +kernel) (by decide +kernel)
set_option maxRecDepth 20000 in
theorem gX4_decisionOf_X4_worthOf : GoodIn wsX4_decisionOf (wsV RX4 154 RX4 yX4_worthOf wsX4_worthOf) := goodIn_app (goodIn_of _ (by decide +kernel)) ggX4_decisionOf_X4_worthOf
set_option maxRecDepth 20000 in
theorem ggX4_decisionOf_X4_kernel : GoodIn wsX4_decisionOf wsX4_kernel := goodIn_r _ [18, 19, 20, 21, 22, 23, 24, 25, 26, 27, 28, 29, 30, 31, 32, 33, 34, 35, 36, 37, 38, 39, 40, 41] (by decide +kernel) (by decide +kernel)
set_option maxRecDepth 20000 in
theorem gX4_decisionOf_X4_kernel : GoodIn wsX4_decisionOf (wsV RX4 68 RX4 yX4_kernel wsX4_kernel) := goodIn_app (goodIn_of _ (by decide +kernel)) ggX4_decisionOf_X4_kernel
theorem dX4_decisionOf_0 : decode cX4_decisionOf 0 = .ok (.lconst 0, 1) := by decide +kernel
theorem dX4_decisionOf_1 : decode cX4_decisionOf 1 = .ok (.lstore_n 3, 1) := by decide +kernel
theorem dX4_decisionOf_2 : decode cX4_decisionOf 2 = .ok (.iconst 0, 1) := by decide +kernel
theorem dX4_decisionOf_3 : decode cX4_decisionOf 3 = .ok (.istore 5, 2) := by decide +kernel
theorem dX4_decisionOf_5 : decode cX4_decisionOf 5 = .ok (.iload 5, 2) := by decide +kernel
theorem dX4_decisionOf_7 : decode cX4_decisionOf 7 = .ok (.aload_n 0, 1) := by decide +kernel
theorem dX4_decisionOf_8 : decode cX4_decisionOf 8 = .ok (.getfield 58, 3) := by decide +kernel
theorem dX4_decisionOf_11 : decode cX4_decisionOf 11 = .ok (.if_icmp .ge 37, 3) := by decide +kernel
theorem dX4_decisionOf_14 : decode cX4_decisionOf 14 = .ok (.lload_n 3, 1) := by decide +kernel
theorem dX4_decisionOf_15 : decode cX4_decisionOf 15 = .ok (.aload_n 0, 1) := by decide +kernel
theorem dX4_decisionOf_16 : decode cX4_decisionOf 16 = .ok (.iload 5, 2) := by decide +kernel
theorem dX4_decisionOf_18 : decode cX4_decisionOf 18 = .ok (.invokevirtual 154, 3) := by decide +kernel
theorem dX4_decisionOf_21 : decode cX4_decisionOf 21 = .ok (.aload_n 0, 1) := by decide +kernel
theorem dX4_decisionOf_22 : decode cX4_decisionOf 22 = .ok (.getfield 26, 3) := by decide +kernel
theorem dX4_decisionOf_25 : decode cX4_decisionOf 25 = .ok (.iload 5, 2) := by decide +kernel
theorem dX4_decisionOf_27 : decode cX4_decisionOf 27 = .ok (.iaload, 1) := by decide +kernel
theorem dX4_decisionOf_28 : decode cX4_decisionOf 28 = .ok (.i2l, 1) := by decide +kernel
theorem dX4_decisionOf_29 : decode cX4_decisionOf 29 = .ok (.lmul, 1) := by decide +kernel
theorem dX4_decisionOf_30 : decode cX4_decisionOf 30 = .ok (.aload_n 0, 1) := by decide +kernel
theorem dX4_decisionOf_31 : decode cX4_decisionOf 31 = .ok (.iload 5, 2) := by decide +kernel
theorem dX4_decisionOf_33 : decode cX4_decisionOf 33 = .ok (.iload_n 1, 1) := by decide +kernel
theorem dX4_decisionOf_34 : decode cX4_decisionOf 34 = .ok (.iload_n 2, 1) := by decide +kernel
theorem dX4_decisionOf_35 : decode cX4_decisionOf 35 = .ok (.invokevirtual 68, 3) := by decide +kernel
theorem dX4_decisionOf_38 : decode cX4_decisionOf 38 = .ok (.i2l, 1) := by decide +kernel
theorem dX4_decisionOf_39 : decode cX4_decisionOf 39 = .ok (.lmul, 1) := by decide +kernel
theorem dX4_decisionOf_40 : decode cX4_decisionOf 40 = .ok (.ladd, 1) := by decide +kernel
theorem dX4_decisionOf_41 : decode cX4_decisionOf 41 = .ok (.lstore_n 3, 1) := by decide +kernel
theorem dX4_decisionOf_42 : decode cX4_decisionOf 42 = .ok (.iinc 5 1, 3) := by decide +kernel
theorem dX4_decisionOf_45 : decode cX4_decisionOf 45 = .ok (.goto (-40), 3) := by decide +kernel
theorem dX4_decisionOf_48 : decode cX4_decisionOf 48 = .ok (.lload_n 3, 1) := by decide +kernel
theorem dX4_decisionOf_49 : decode cX4_decisionOf 49 = .ok (.lreturn, 1) := by decide +kernel
set_option maxRecDepth 20000 in
theorem ggX4_isPlace_X4_in : GoodIn wsX4_isPlace wsX4_in := goodIn_r _ [4] (by decide +kernel) (by decide +kernel)
set_option maxRecDepth 20000 in
theorem gX4_isPlace_X4_in : GoodIn wsX4_isPlace (va_wsS RX4 61 yX4_in wsX4_in) := goodIn_app (goodIn_of _ (by decide +kernel)) ggX4_isPlace_X4_in
theorem dX4_isPlace_0 : decode cX4_isPlace 0 = .ok (.iload_n 0, 1) := by decide +kernel
theorem dX4_isPlace_1 : decode cX4_isPlace 1 = .ok (.bipush (-4), 2) := by decide +kernel
theorem dX4_isPlace_3 : decode cX4_isPlace 3 = .ok (.iconst 4, 1) := by decide +kernel
theorem dX4_isPlace_4 : decode cX4_isPlace 4 = .ok (.invokestatic 61, 3) := by decide +kernel
theorem dX4_isPlace_7 : decode cX4_isPlace 7 = .ok (.ifCond .eq 17, 3) := by decide +kernel
theorem dX4_isPlace_10 : decode cX4_isPlace 10 = .ok (.iload_n 1, 1) := by decide +kernel
theorem dX4_isPlace_11 : decode cX4_isPlace 11 = .ok (.bipush (-4), 2) := by decide +kernel
theorem dX4_isPlace_13 : decode cX4_isPlace 13 = .ok (.iconst 4, 1) := by decide +kernel
theorem dX4_isPlace_14 : decode cX4_isPlace 14 = .ok (.invokestatic 61, 3) := by decide +kernel
theorem dX4_isPlace_17 : decode cX4_isPlace 17 = .ok (.ifCond .eq 7, 3) := by decide +kernel
theorem dX4_isPlace_20 : decode cX4_isPlace 20 = .ok (.iconst 1, 1) := by decide +kernel
theorem dX4_isPlace_21 : decode cX4_isPlace 21 = .ok (.goto 4, 3) := by decide +kernel
theorem dX4_isPlace_24 : decode cX4_isPlace 24 = .ok (.iconst 0, 1) := by decide +kernel
theorem dX4_isPlace_25 : decode cX4_isPlace 25 = .ok (.ireturn, 1) := by decide +kernel
set_option maxRecDepth 20000 in
theorem ggX4_decision_X4_isPlace : GoodIn wsX4_decision wsX4_isPlace := goodIn_r _ [7, 8, 9, 6, 10] (by decide +kernel) (by decide +kernel)
set_option maxRecDepth 20000 in
theorem gX4_decision_X4_isPlace : GoodIn wsX4_decision (va_wsS RX4 164 yX4_isPlace wsX4_isPlace) := goodIn_app (goodIn_of _ (by decide +kernel)) ggX4_decision_X4_isPlace
set_option maxRecDepth 20000 in
theorem ggX4_decision_X4_decisionOf : GoodIn wsX4_decision wsX4_decisionOf := goodIn_r _ [14, 15, 16, 17, 18, 19, 6, 20, 21, 22, 23, 24, 25, 26, 27, 28, 29, 30, 31, 32, 33, 34, 44, 45, 46, 47, 48, 49, 50, 51, 52, 53, 54, 55, 56, 57, 58, 59, 60, 61, 62, 63] (by decide +kernel) (by decide +kernel)
set_option maxRecDepth 20000 in
theorem gX4_decision_X4_decisionOf : GoodIn wsX4_decision (wsV RX4 168 RX4 yX4_decisionOf wsX4_decisionOf) := goodIn_app (goodIn_of _ (by decide +kernel)) ggX4_decision_X4_decisionOf
set_option maxRecDepth 20000 in
theorem ggX4_decision_X4_lowest : GoodIn wsX4_decision wsX4_lowest := goodIn_r _ [37, 38, 39, 6, 40, 41, 42, 43] (by decide +kernel) (by decide +kernel)
set_option maxRecDepth 20000 in
theorem gX4_decision_X4_lowest : GoodIn wsX4_decision (va_wsS RX4 150 yX4_lowest wsX4_lowest) := goodIn_app (goodIn_of _ (by decide +kernel)) ggX4_decision_X4_lowest
theorem dX4_decision_0 : decode cX4_decision 0 = .ok (.aload_n 0, 1) := by decide +kernel
theorem dX4_decision_1 : decode cX4_decision 1 = .ok (.getfield 49, 3) := by decide +kernel
theorem dX4_decision_4 : decode cX4_decision 4 = .ok (.ifCond .eq 34, 3) := by decide +kernel
theorem dX4_decision_7 : decode cX4_decision 7 = .ok (.iload_n 1, 1) := by decide +kernel
theorem dX4_decision_8 : decode cX4_decision 8 = .ok (.iload_n 2, 1) := by decide +kernel
theorem dX4_decision_9 : decode cX4_decision 9 = .ok (.invokestatic 164, 3) := by decide +kernel
theorem dX4_decision_12 : decode cX4_decision 12 = .ok (.ifCond .eq 26, 3) := by decide +kernel
theorem dX4_decision_15 : decode cX4_decision 15 = .ok (.aload_n 0, 1) := by decide +kernel
theorem dX4_decision_16 : decode cX4_decision 16 = .ok (.iload_n 1, 1) := by decide +kernel
theorem dX4_decision_17 : decode cX4_decision 17 = .ok (.iload_n 2, 1) := by decide +kernel
theorem dX4_decision_18 : decode cX4_decision 18 = .ok (.invokevirtual 168, 3) := by decide +kernel
theorem dX4_decision_21 : decode cX4_decision 21 = .ok (.aload_n 0, 1) := by decide +kernel
theorem dX4_decision_22 : decode cX4_decision 22 = .ok (.getfield 115, 3) := by decide +kernel
theorem dX4_decision_25 : decode cX4_decision 25 = .ok (.aload_n 0, 1) := by decide +kernel
theorem dX4_decision_26 : decode cX4_decision 26 = .ok (.getfield 16, 3) := by decide +kernel
theorem dX4_decision_29 : decode cX4_decision 29 = .ok (.i2l, 1) := by decide +kernel
theorem dX4_decision_30 : decode cX4_decision 30 = .ok (.lmul, 1) := by decide +kernel
theorem dX4_decision_31 : decode cX4_decision 31 = .ok (.iload_n 3, 1) := by decide +kernel
theorem dX4_decision_32 : decode cX4_decision 32 = .ok (.invokestatic 150, 3) := by decide +kernel
theorem dX4_decision_35 : decode cX4_decision 35 = .ok (.goto 4, 3) := by decide +kernel
theorem dX4_decision_38 : decode cX4_decision 38 = .ok (.lconst 0, 1) := by decide +kernel
theorem dX4_decision_39 : decode cX4_decision 39 = .ok (.lreturn, 1) := by decide +kernel
set_option maxRecDepth 20000 in
theorem ggX4_predict_X4_isPlace : GoodIn wsX4_predict wsX4_isPlace := goodIn_r _ [5, 6, 7, 4, 8] (by decide +kernel) (by decide +kernel)
set_option maxRecDepth 20000 in
theorem gX4_predict_X4_isPlace : GoodIn wsX4_predict (va_wsS RX4 164 yX4_isPlace wsX4_isPlace) := goodIn_app (goodIn_of _ (by decide +kernel)) ggX4_predict_X4_isPlace
set_option maxRecDepth 20000 in
theorem ggX4_predict_X4_decisionOf : GoodIn wsX4_predict wsX4_decisionOf := goodIn_r _ [12, 13, 14, 15, 16, 17, 4, 18, 19, 20, 21, 22, 23, 24, 25, 26, 27, 28, 29, 30, 31, 32, 33, 34, 35, 36, 37, 38, 39, 40, 41, 42, 43, 44, 45, 46, 47, 48, 49, 50, 51, 52] (by decide +kernel) (by decide +kernel)
set_option maxRecDepth 20000 in
theorem gX4_predict_X4_decisionOf : GoodIn wsX4_predict (wsV RX4 168 RX4 yX4_decisionOf wsX4_decisionOf) := goodIn_app (goodIn_of _ (by decide +kernel)) ggX4_predict_X4_decisionOf
theorem dX4_predict_0 : decode cX4_predict 0 = .ok (.iload_n 1, 1) := by decide +kernel
theorem dX4_predict_1 : decode cX4_predict 1 = .ok (.iload_n 2, 1) := by decide +kernel
theorem dX4_predict_2 : decode cX4_predict 2 = .ok (.invokestatic 164, 3) := by decide +kernel
theorem dX4_predict_5 : decode cX4_predict 5 = .ok (.ifCond .ne 6, 3) := by decide +kernel
theorem dX4_predict_8 : decode cX4_predict 8 = .ok (.bipush (-2), 2) := by decide +kernel
theorem dX4_predict_10 : decode cX4_predict 10 = .ok (.ireturn, 1) := by decide +kernel
theorem dX4_predict_11 : decode cX4_predict 11 = .ok (.aload_n 0, 1) := by decide +kernel
theorem dX4_predict_12 : decode cX4_predict 12 = .ok (.getfield 49, 3) := by decide +kernel
theorem dX4_predict_15 : decode cX4_predict 15 = .ok (.ifCond .ne 6, 3) := by decide +kernel
theorem dX4_predict_18 : decode cX4_predict 18 = .ok (.bipush (-3), 2) := by decide +kernel
theorem dX4_predict_20 : decode cX4_predict 20 = .ok (.ireturn, 1) := by decide +kernel
theorem dX4_predict_21 : decode cX4_predict 21 = .ok (.aload_n 0, 1) := by decide +kernel
theorem dX4_predict_22 : decode cX4_predict 22 = .ok (.iload_n 1, 1) := by decide +kernel
theorem dX4_predict_23 : decode cX4_predict 23 = .ok (.iload_n 2, 1) := by decide +kernel
theorem dX4_predict_24 : decode cX4_predict 24 = .ok (.invokevirtual 168, 3) := by decide +kernel
theorem dX4_predict_27 : decode cX4_predict 27 = .ok (.lstore_n 3, 1) := by decide +kernel
theorem dX4_predict_28 : decode cX4_predict 28 = .ok (.lload_n 3, 1) := by decide +kernel
theorem dX4_predict_29 : decode cX4_predict 29 = .ok (.lconst 0, 1) := by decide +kernel
theorem dX4_predict_30 : decode cX4_predict 30 = .ok (.lcmp, 1) := by decide +kernel
theorem dX4_predict_31 : decode cX4_predict 31 = .ok (.ifCond .le 7, 3) := by decide +kernel
theorem dX4_predict_34 : decode cX4_predict 34 = .ok (.iconst 1, 1) := by decide +kernel
theorem dX4_predict_35 : decode cX4_predict 35 = .ok (.goto 14, 3) := by decide +kernel
theorem dX4_predict_38 : decode cX4_predict 38 = .ok (.lload_n 3, 1) := by decide +kernel
theorem dX4_predict_39 : decode cX4_predict 39 = .ok (.lconst 0, 1) := by decide +kernel
theorem dX4_predict_40 : decode cX4_predict 40 = .ok (.lcmp, 1) := by decide +kernel
theorem dX4_predict_41 : decode cX4_predict 41 = .ok (.ifCond .ge 7, 3) := by decide +kernel
theorem dX4_predict_44 : decode cX4_predict 44 = .ok (.iconst (-1), 1) := by decide +kernel
theorem dX4_predict_45 : decode cX4_predict 45 = .ok (.goto 4, 3) := by decide +kernel
theorem dX4_predict_48 : decode cX4_predict 48 = .ok (.iconst 0, 1) := by decide +kernel
theorem dX4_predict_49 : decode cX4_predict 49 = .ok (.ireturn, 1) := by decide +kernel
set_option maxRecDepth 20000 in
theorem ggX4_count_X4_stands : GoodIn wsX4_count wsX4_stands := goodIn_r _ [12, 7, 13, 25, 26, 27, 28, 29, 30, 31, 32, 33, 34, 35, 36, 37, 38, 39, 40, 41, 42, 43, 44] (by decide +kernel) (by decide +kernel)
set_option maxRecDepth 20000 in
theorem gX4_count_X4_stands : GoodIn wsX4_count (wsV RX4 144 RX4 yX4_stands wsX4_stands) := goodIn_app (goodIn_of _ (by decide +kernel)) ggX4_count_X4_stands
set_option maxRecDepth 20000 in
theorem ggX4_count_X4_worthOf : GoodIn wsX4_count wsX4_worthOf := goodIn_r _ [17, 18, 19, 20, 21, 22, 23, 11, 24, 25, 26, 27, 28, 29, 30, 31, 32, 33, 34, 35, 36, 37, 38, 39, 40, 41, 42, 43, 44] (by decide +kernel) (by decide +kernel)
set_option maxRecDepth 20000 in
theorem gX4_count_X4_worthOf : GoodIn wsX4_count (wsV RX4 154 RX4 yX4_worthOf wsX4_worthOf) := goodIn_app (goodIn_of _ (by decide +kernel)) ggX4_count_X4_worthOf
theorem dX4_count_0 : decode cX4_count 0 = .ok (.iconst 0, 1) := by decide +kernel
theorem dX4_count_1 : decode cX4_count 1 = .ok (.istore_n 2, 1) := by decide +kernel
theorem dX4_count_2 : decode cX4_count 2 = .ok (.iload_n 1, 1) := by decide +kernel
theorem dX4_count_3 : decode cX4_count 3 = .ok (.tableswitch 136 0 6 #[41, 46, 51, 56, 61, 66, 82], 41) := by decide +kernel
theorem dX4_count_44 : decode cX4_count 44 = .ok (.aload_n 0, 1) := by decide +kernel
theorem dX4_count_45 : decode cX4_count 45 = .ok (.getfield 58, 3) := by decide +kernel
theorem dX4_count_48 : decode cX4_count 48 = .ok (.ireturn, 1) := by decide +kernel
theorem dX4_count_49 : decode cX4_count 49 = .ok (.aload_n 0, 1) := by decide +kernel
theorem dX4_count_50 : decode cX4_count 50 = .ok (.getfield 7, 3) := by decide +kernel
theorem dX4_count_53 : decode cX4_count 53 = .ok (.ireturn, 1) := by decide +kernel
theorem dX4_count_54 : decode cX4_count 54 = .ok (.aload_n 0, 1) := by decide +kernel
theorem dX4_count_55 : decode cX4_count 55 = .ok (.getfield 13, 3) := by decide +kernel
theorem dX4_count_58 : decode cX4_count 58 = .ok (.ireturn, 1) := by decide +kernel
theorem dX4_count_59 : decode cX4_count 59 = .ok (.aload_n 0, 1) := by decide +kernel
theorem dX4_count_60 : decode cX4_count 60 = .ok (.getfield 16, 3) := by decide +kernel
theorem dX4_count_63 : decode cX4_count 63 = .ok (.ireturn, 1) := by decide +kernel
theorem dX4_count_64 : decode cX4_count 64 = .ok (.aload_n 0, 1) := by decide +kernel
theorem dX4_count_65 : decode cX4_count 65 = .ok (.getfield 55, 3) := by decide +kernel
theorem dX4_count_68 : decode cX4_count 68 = .ok (.ireturn, 1) := by decide +kernel
theorem dX4_count_69 : decode cX4_count 69 = .ok (.aload_n 0, 1) := by decide +kernel
theorem dX4_count_70 : decode cX4_count 70 = .ok (.getfield 45, 3) := by decide +kernel
theorem dX4_count_73 : decode cX4_count 73 = .ok (.ifCond .eq 10, 3) := by decide +kernel
theorem dX4_count_76 : decode cX4_count 76 = .ok (.aload_n 0, 1) := by decide +kernel
theorem dX4_count_77 : decode cX4_count 77 = .ok (.invokevirtual 144, 3) := by decide +kernel
theorem dX4_count_80 : decode cX4_count 80 = .ok (.goto 4, 3) := by decide +kernel
theorem dX4_count_83 : decode cX4_count 83 = .ok (.iconst (-1), 1) := by decide +kernel
theorem dX4_count_84 : decode cX4_count 84 = .ok (.ireturn, 1) := by decide +kernel
theorem dX4_count_85 : decode cX4_count 85 = .ok (.iconst 0, 1) := by decide +kernel
theorem dX4_count_86 : decode cX4_count 86 = .ok (.istore_n 3, 1) := by decide +kernel
theorem dX4_count_87 : decode cX4_count 87 = .ok (.iload_n 3, 1) := by decide +kernel
theorem dX4_count_88 : decode cX4_count 88 = .ok (.aload_n 0, 1) := by decide +kernel
theorem dX4_count_89 : decode cX4_count 89 = .ok (.getfield 58, 3) := by decide +kernel
theorem dX4_count_92 : decode cX4_count 92 = .ok (.if_icmp .ge 34, 3) := by decide +kernel
theorem dX4_count_95 : decode cX4_count 95 = .ok (.aload_n 0, 1) := by decide +kernel
theorem dX4_count_96 : decode cX4_count 96 = .ok (.getfield 49, 3) := by decide +kernel
theorem dX4_count_99 : decode cX4_count 99 = .ok (.ifCond .eq 27, 3) := by decide +kernel
theorem dX4_count_102 : decode cX4_count 102 = .ok (.iload_n 2, 1) := by decide +kernel
theorem dX4_count_103 : decode cX4_count 103 = .ok (.aload_n 0, 1) := by decide +kernel
theorem dX4_count_104 : decode cX4_count 104 = .ok (.iload_n 3, 1) := by decide +kernel
theorem dX4_count_105 : decode cX4_count 105 = .ok (.invokevirtual 154, 3) := by decide +kernel
theorem dX4_count_108 : decode cX4_count 108 = .ok (.lconst 0, 1) := by decide +kernel
theorem dX4_count_109 : decode cX4_count 109 = .ok (.lcmp, 1) := by decide +kernel
theorem dX4_count_110 : decode cX4_count 110 = .ok (.ifCond .le 7, 3) := by decide +kernel
theorem dX4_count_113 : decode cX4_count 113 = .ok (.iconst 1, 1) := by decide +kernel
theorem dX4_count_114 : decode cX4_count 114 = .ok (.goto 4, 3) := by decide +kernel
theorem dX4_count_117 : decode cX4_count 117 = .ok (.iconst 0, 1) := by decide +kernel
theorem dX4_count_118 : decode cX4_count 118 = .ok (.iadd, 1) := by decide +kernel
theorem dX4_count_119 : decode cX4_count 119 = .ok (.istore_n 2, 1) := by decide +kernel
theorem dX4_count_120 : decode cX4_count 120 = .ok (.iinc 3 1, 3) := by decide +kernel
theorem dX4_count_123 : decode cX4_count 123 = .ok (.goto (-36), 3) := by decide +kernel
theorem dX4_count_126 : decode cX4_count 126 = .ok (.aload_n 0, 1) := by decide +kernel
theorem dX4_count_127 : decode cX4_count 127 = .ok (.getfield 49, 3) := by decide +kernel
theorem dX4_count_130 : decode cX4_count 130 = .ok (.ifCond .eq 7, 3) := by decide +kernel
theorem dX4_count_133 : decode cX4_count 133 = .ok (.iload_n 2, 1) := by decide +kernel
theorem dX4_count_134 : decode cX4_count 134 = .ok (.goto 4, 3) := by decide +kernel
theorem dX4_count_137 : decode cX4_count 137 = .ok (.iconst (-1), 1) := by decide +kernel
theorem dX4_count_138 : decode cX4_count 138 = .ok (.ireturn, 1) := by decide +kernel
theorem dX4_count_139 : decode cX4_count 139 = .ok (.bipush (-2), 2) := by decide +kernel
theorem dX4_count_141 : decode cX4_count 141 = .ok (.ireturn, 1) := by decide +kernel
set_option maxRecDepth 20000 in
theorem ggX4_digest_X4_count : GoodIn wsX4_digest wsX4_count := goodIn_r _ [15, 3, 16, 17, 18, 7, 19, 20, 21, 22, 23, 14, 24, 25, 26, 27, 28, 29, 30, 31, 32, 33, 34, 35, 36, 58, 59, 60, 61, 62, 63, 64, 65, 66, 67, 68, 69, 70, 71, 72, 73, 74, 75, 76, 77] (by decide +kernel) (by decide +kernel)
set_option maxRecDepth 20000 in
theorem gX4_digest_X4_count : GoodIn wsX4_digest (wsV RX4 175 RX4 yX4_count wsX4_count) := goodIn_app (goodIn_of _ (by decide +kernel)) ggX4_digest_X4_count
set_option maxRecDepth 20000 in
theorem ggX4_digest_X4_multiplier : GoodIn wsX4_digest wsX4_multiplier := goodIn_r _ [40, 20, 41, 18, 42, 43, 44, 14, 45, 3, 46, 47, 48, 26, 27, 28, 29, 30, 31, 32, 33, 34, 35, 36, 49, 50, 51, 52, 53, 54, 55, 56, 57, 58, 59, 60, 61, 62, 63, 64, 65, 66, 67, 68, 69, 70, 71, 72, 73, 74, 75, 76, 77] (by decide +kernel) (by decide +kernel)
set_option maxRecDepth 20000 in
theorem gX4_digest_X4_multiplier : GoodIn wsX4_digest (wsV RX4 178 RX4 yX4_multiplier wsX4_multiplier) := goodIn_app (goodIn_of _ (by decide +kernel)) ggX4_digest_X4_multiplier
theorem dX4_digest_0 : decode cX4_digest 0 = .ok (.ldc2_w 171, 3) := by decide +kernel
theorem dX4_digest_3 : decode cX4_digest 3 = .ok (.lstore_n 1, 1) := by decide +kernel
theorem dX4_digest_4 : decode cX4_digest 4 = .ok (.iconst 0, 1) := by decide +kernel
theorem dX4_digest_5 : decode cX4_digest 5 = .ok (.istore_n 3, 1) := by decide +kernel
theorem dX4_digest_6 : decode cX4_digest 6 = .ok (.iload_n 3, 1) := by decide +kernel
theorem dX4_digest_7 : decode cX4_digest 7 = .ok (.bipush 7, 2) := by decide +kernel
theorem dX4_digest_9 : decode cX4_digest 9 = .ok (.if_icmp .ge 22, 3) := by decide +kernel
theorem dX4_digest_12 : decode cX4_digest 12 = .ok (.ldc2_w 173, 3) := by decide +kernel
theorem dX4_digest_15 : decode cX4_digest 15 = .ok (.lload_n 1, 1) := by decide +kernel
theorem dX4_digest_16 : decode cX4_digest 16 = .ok (.lmul, 1) := by decide +kernel
theorem dX4_digest_17 : decode cX4_digest 17 = .ok (.aload_n 0, 1) := by decide +kernel
theorem dX4_digest_18 : decode cX4_digest 18 = .ok (.iload_n 3, 1) := by decide +kernel
theorem dX4_digest_19 : decode cX4_digest 19 = .ok (.invokevirtual 175, 3) := by decide +kernel
theorem dX4_digest_22 : decode cX4_digest 22 = .ok (.i2l, 1) := by decide +kernel
theorem dX4_digest_23 : decode cX4_digest 23 = .ok (.ladd, 1) := by decide +kernel
theorem dX4_digest_24 : decode cX4_digest 24 = .ok (.lstore_n 1, 1) := by decide +kernel
theorem dX4_digest_25 : decode cX4_digest 25 = .ok (.iinc 3 1, 3) := by decide +kernel
theorem dX4_digest_28 : decode cX4_digest 28 = .ok (.goto (-22), 3) := by decide +kernel
theorem dX4_digest_31 : decode cX4_digest 31 = .ok (.iconst 0, 1) := by decide +kernel
theorem dX4_digest_32 : decode cX4_digest 32 = .ok (.istore_n 3, 1) := by decide +kernel
theorem dX4_digest_33 : decode cX4_digest 33 = .ok (.iload_n 3, 1) := by decide +kernel
theorem dX4_digest_34 : decode cX4_digest 34 = .ok (.aload_n 0, 1) := by decide +kernel
theorem dX4_digest_35 : decode cX4_digest 35 = .ok (.getfield 58, 3) := by decide +kernel
theorem dX4_digest_38 : decode cX4_digest 38 = .ok (.if_icmp .ge 47, 3) := by decide +kernel
theorem dX4_digest_41 : decode cX4_digest 41 = .ok (.ldc2_w 173, 3) := by decide +kernel
theorem dX4_digest_44 : decode cX4_digest 44 = .ok (.ldc2_w 173, 3) := by decide +kernel
theorem dX4_digest_47 : decode cX4_digest 47 = .ok (.ldc2_w 173, 3) := by decide +kernel
theorem dX4_digest_50 : decode cX4_digest 50 = .ok (.lload_n 1, 1) := by decide +kernel
theorem dX4_digest_51 : decode cX4_digest 51 = .ok (.lmul, 1) := by decide +kernel
theorem dX4_digest_52 : decode cX4_digest 52 = .ok (.aload_n 0, 1) := by decide +kernel
theorem dX4_digest_53 : decode cX4_digest 53 = .ok (.getfield 19, 3) := by decide +kernel
theorem dX4_digest_56 : decode cX4_digest 56 = .ok (.iload_n 3, 1) := by decide +kernel
theorem dX4_digest_57 : decode cX4_digest 57 = .ok (.iaload, 1) := by decide +kernel
theorem dX4_digest_58 : decode cX4_digest 58 = .ok (.i2l, 1) := by decide +kernel
theorem dX4_digest_59 : decode cX4_digest 59 = .ok (.ladd, 1) := by decide +kernel
theorem dX4_digest_60 : decode cX4_digest 60 = .ok (.lmul, 1) := by decide +kernel
theorem dX4_digest_61 : decode cX4_digest 61 = .ok (.aload_n 0, 1) := by decide +kernel
theorem dX4_digest_62 : decode cX4_digest 62 = .ok (.getfield 23, 3) := by decide +kernel
theorem dX4_digest_65 : decode cX4_digest 65 = .ok (.iload_n 3, 1) := by decide +kernel
theorem dX4_digest_66 : decode cX4_digest 66 = .ok (.iaload, 1) := by decide +kernel
theorem dX4_digest_67 : decode cX4_digest 67 = .ok (.i2l, 1) := by decide +kernel
theorem dX4_digest_68 : decode cX4_digest 68 = .ok (.ladd, 1) := by decide +kernel
theorem dX4_digest_69 : decode cX4_digest 69 = .ok (.lmul, 1) := by decide +kernel
theorem dX4_digest_70 : decode cX4_digest 70 = .ok (.aload_n 0, 1) := by decide +kernel
theorem dX4_digest_71 : decode cX4_digest 71 = .ok (.getfield 26, 3) := by decide +kernel
theorem dX4_digest_74 : decode cX4_digest 74 = .ok (.iload_n 3, 1) := by decide +kernel
theorem dX4_digest_75 : decode cX4_digest 75 = .ok (.iaload, 1) := by decide +kernel
theorem dX4_digest_76 : decode cX4_digest 76 = .ok (.i2l, 1) := by decide +kernel
theorem dX4_digest_77 : decode cX4_digest 77 = .ok (.ladd, 1) := by decide +kernel
theorem dX4_digest_78 : decode cX4_digest 78 = .ok (.lstore_n 1, 1) := by decide +kernel
theorem dX4_digest_79 : decode cX4_digest 79 = .ok (.iinc 3 1, 3) := by decide +kernel
theorem dX4_digest_82 : decode cX4_digest 82 = .ok (.goto (-49), 3) := by decide +kernel
theorem dX4_digest_85 : decode cX4_digest 85 = .ok (.iconst 0, 1) := by decide +kernel
theorem dX4_digest_86 : decode cX4_digest 86 = .ok (.istore_n 3, 1) := by decide +kernel
theorem dX4_digest_87 : decode cX4_digest 87 = .ok (.iload_n 3, 1) := by decide +kernel
theorem dX4_digest_88 : decode cX4_digest 88 = .ok (.aload_n 0, 1) := by decide +kernel
theorem dX4_digest_89 : decode cX4_digest 89 = .ok (.getfield 55, 3) := by decide +kernel
theorem dX4_digest_92 : decode cX4_digest 92 = .ok (.if_icmp .ge 47, 3) := by decide +kernel
theorem dX4_digest_95 : decode cX4_digest 95 = .ok (.ldc2_w 173, 3) := by decide +kernel
theorem dX4_digest_98 : decode cX4_digest 98 = .ok (.ldc2_w 173, 3) := by decide +kernel
theorem dX4_digest_101 : decode cX4_digest 101 = .ok (.ldc2_w 173, 3) := by decide +kernel
theorem dX4_digest_104 : decode cX4_digest 104 = .ok (.lload_n 1, 1) := by decide +kernel
theorem dX4_digest_105 : decode cX4_digest 105 = .ok (.lmul, 1) := by decide +kernel
theorem dX4_digest_106 : decode cX4_digest 106 = .ok (.aload_n 0, 1) := by decide +kernel
theorem dX4_digest_107 : decode cX4_digest 107 = .ok (.getfield 36, 3) := by decide +kernel
theorem dX4_digest_110 : decode cX4_digest 110 = .ok (.iload_n 3, 1) := by decide +kernel
theorem dX4_digest_111 : decode cX4_digest 111 = .ok (.iaload, 1) := by decide +kernel
theorem dX4_digest_112 : decode cX4_digest 112 = .ok (.i2l, 1) := by decide +kernel
theorem dX4_digest_113 : decode cX4_digest 113 = .ok (.ladd, 1) := by decide +kernel
theorem dX4_digest_114 : decode cX4_digest 114 = .ok (.lmul, 1) := by decide +kernel
theorem dX4_digest_115 : decode cX4_digest 115 = .ok (.aload_n 0, 1) := by decide +kernel
theorem dX4_digest_116 : decode cX4_digest 116 = .ok (.getfield 39, 3) := by decide +kernel
theorem dX4_digest_119 : decode cX4_digest 119 = .ok (.iload_n 3, 1) := by decide +kernel
theorem dX4_digest_120 : decode cX4_digest 120 = .ok (.iaload, 1) := by decide +kernel
theorem dX4_digest_121 : decode cX4_digest 121 = .ok (.i2l, 1) := by decide +kernel
theorem dX4_digest_122 : decode cX4_digest 122 = .ok (.ladd, 1) := by decide +kernel
theorem dX4_digest_123 : decode cX4_digest 123 = .ok (.lmul, 1) := by decide +kernel
theorem dX4_digest_124 : decode cX4_digest 124 = .ok (.aload_n 0, 1) := by decide +kernel
theorem dX4_digest_125 : decode cX4_digest 125 = .ok (.getfield 42, 3) := by decide +kernel
theorem dX4_digest_128 : decode cX4_digest 128 = .ok (.iload_n 3, 1) := by decide +kernel
theorem dX4_digest_129 : decode cX4_digest 129 = .ok (.iaload, 1) := by decide +kernel
theorem dX4_digest_130 : decode cX4_digest 130 = .ok (.i2l, 1) := by decide +kernel
theorem dX4_digest_131 : decode cX4_digest 131 = .ok (.ladd, 1) := by decide +kernel
theorem dX4_digest_132 : decode cX4_digest 132 = .ok (.lstore_n 1, 1) := by decide +kernel
theorem dX4_digest_133 : decode cX4_digest 133 = .ok (.iinc 3 1, 3) := by decide +kernel
theorem dX4_digest_136 : decode cX4_digest 136 = .ok (.goto (-49), 3) := by decide +kernel
theorem dX4_digest_139 : decode cX4_digest 139 = .ok (.iconst 0, 1) := by decide +kernel
theorem dX4_digest_140 : decode cX4_digest 140 = .ok (.istore_n 3, 1) := by decide +kernel
theorem dX4_digest_141 : decode cX4_digest 141 = .ok (.iload_n 3, 1) := by decide +kernel
theorem dX4_digest_142 : decode cX4_digest 142 = .ok (.aload_n 0, 1) := by decide +kernel
theorem dX4_digest_143 : decode cX4_digest 143 = .ok (.getfield 58, 3) := by decide +kernel
theorem dX4_digest_146 : decode cX4_digest 146 = .ok (.if_icmp .ge 33, 3) := by decide +kernel
theorem dX4_digest_149 : decode cX4_digest 149 = .ok (.ldc2_w 173, 3) := by decide +kernel
theorem dX4_digest_152 : decode cX4_digest 152 = .ok (.ldc2_w 173, 3) := by decide +kernel
theorem dX4_digest_155 : decode cX4_digest 155 = .ok (.lload_n 1, 1) := by decide +kernel
theorem dX4_digest_156 : decode cX4_digest 156 = .ok (.lmul, 1) := by decide +kernel
theorem dX4_digest_157 : decode cX4_digest 157 = .ok (.aload_n 0, 1) := by decide +kernel
theorem dX4_digest_158 : decode cX4_digest 158 = .ok (.iload_n 3, 1) := by decide +kernel
theorem dX4_digest_159 : decode cX4_digest 159 = .ok (.iconst 0, 1) := by decide +kernel
theorem dX4_digest_160 : decode cX4_digest 160 = .ok (.invokevirtual 178, 3) := by decide +kernel
theorem dX4_digest_163 : decode cX4_digest 163 = .ok (.ladd, 1) := by decide +kernel
theorem dX4_digest_164 : decode cX4_digest 164 = .ok (.lmul, 1) := by decide +kernel
theorem dX4_digest_165 : decode cX4_digest 165 = .ok (.aload_n 0, 1) := by decide +kernel
theorem dX4_digest_166 : decode cX4_digest 166 = .ok (.iload_n 3, 1) := by decide +kernel
theorem dX4_digest_167 : decode cX4_digest 167 = .ok (.iconst 1, 1) := by decide +kernel
theorem dX4_digest_168 : decode cX4_digest 168 = .ok (.invokevirtual 178, 3) := by decide +kernel
theorem dX4_digest_171 : decode cX4_digest 171 = .ok (.ladd, 1) := by decide +kernel
theorem dX4_digest_172 : decode cX4_digest 172 = .ok (.lstore_n 1, 1) := by decide +kernel
theorem dX4_digest_173 : decode cX4_digest 173 = .ok (.iinc 3 1, 3) := by decide +kernel
theorem dX4_digest_176 : decode cX4_digest 176 = .ok (.goto (-35), 3) := by decide +kernel
theorem dX4_digest_179 : decode cX4_digest 179 = .ok (.lload_n 1, 1) := by decide +kernel
theorem dX4_digest_180 : decode cX4_digest 180 = .ok (.lreturn, 1) := by decide +kernel
