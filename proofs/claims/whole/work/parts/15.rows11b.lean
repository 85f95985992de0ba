theorem dX11_oddsOf_0 : decode cX11_oddsOf 0 = .ok (.aload_n 0, 1) := by decide +kernel
theorem dX11_oddsOf_1 : decode cX11_oddsOf 1 = .ok (.getfield 13, 3) := by decide +kernel
theorem dX11_oddsOf_4 : decode cX11_oddsOf 4 = .ok (.iconst 3, 1) := by decide +kernel
theorem dX11_oddsOf_5 : decode cX11_oddsOf 5 = .ok (.iaload, 1) := by decide +kernel
theorem dX11_oddsOf_6 : decode cX11_oddsOf 6 = .ok (.iconst 1, 1) := by decide +kernel
theorem dX11_oddsOf_7 : decode cX11_oddsOf 7 = .ok (.if_icmp .ne 13, 3) := by decide +kernel
theorem dX11_oddsOf_10 : decode cX11_oddsOf 10 = .ok (.aload_n 0, 1) := by decide +kernel
theorem dX11_oddsOf_11 : decode cX11_oddsOf 11 = .ok (.iload_n 1, 1) := by decide +kernel
theorem dX11_oddsOf_12 : decode cX11_oddsOf 12 = .ok (.iload_n 2, 1) := by decide +kernel
theorem dX11_oddsOf_13 : decode cX11_oddsOf 13 = .ok (.iload_n 3, 1) := by decide +kernel
theorem dX11_oddsOf_14 : decode cX11_oddsOf 14 = .ok (.invokevirtual 176, 3) := by decide +kernel
theorem dX11_oddsOf_17 : decode cX11_oddsOf 17 = .ok (.goto 12, 3) := by decide +kernel
theorem dX11_oddsOf_20 : decode cX11_oddsOf 20 = .ok (.aload_n 0, 1) := by decide +kernel
theorem dX11_oddsOf_21 : decode cX11_oddsOf 21 = .ok (.iload_n 1, 1) := by decide +kernel
theorem dX11_oddsOf_22 : decode cX11_oddsOf 22 = .ok (.iload_n 2, 1) := by decide +kernel
theorem dX11_oddsOf_23 : decode cX11_oddsOf 23 = .ok (.iload_n 3, 1) := by decide +kernel
theorem dX11_oddsOf_24 : decode cX11_oddsOf 24 = .ok (.iload 4, 2) := by decide +kernel
theorem dX11_oddsOf_26 : decode cX11_oddsOf 26 = .ok (.invokevirtual 180, 3) := by decide +kernel
theorem dX11_oddsOf_29 : decode cX11_oddsOf 29 = .ok (.ireturn, 1) := by decide +kernel
set_option maxRecDepth 20000 in
theorem ggX11_oddsWith_X11_weightOf : GoodIn wsX11_oddsWith wsX11_weightOf := goodIn_r _ [7, 8, 9, 10, 11, 6, 12, 17, 18, 19, 20, 21, 22, 23, 24, 25, 26, 27, 28, 29, 30, 31, 32, 33, 34, 35, 36, 37, 38, 39, 40, 41, 42, 43] (by decide +kernel) (by decide +kernel)
set_option maxRecDepth 20000 in
theorem gX11_oddsWith_X11_weightOf : GoodIn wsX11_oddsWith (wsV RX11 129 RX11 yX11_weightOf wsX11_weightOf) := goodIn_app (goodIn_of _ (by decide +kernel)) ggX11_oddsWith_X11_weightOf
set_option maxRecDepth 20000 in
theorem ggX11_oddsWith_X11_all : GoodIn wsX11_oddsWith wsX11_all := goodIn_r _ [16, 8, 17, 18, 19, 20, 21, 22, 23, 24, 25, 26, 27, 28, 29, 30, 31, 32, 33, 34, 35, 36, 37, 38, 39, 40, 41, 42, 43] (by decide +kernel) (by decide +kernel)
set_option maxRecDepth 20000 in
theorem gX11_oddsWith_X11_all : GoodIn wsX11_oddsWith (wsV RX11 107 RX11 yX11_all wsX11_all) := goodIn_app (goodIn_of _ (by decide +kernel)) ggX11_oddsWith_X11_all
theorem dX11_oddsWith_0 : decode cX11_oddsWith 0 = .ok (.iconst 0, 1) := by decide +kernel
theorem dX11_oddsWith_1 : decode cX11_oddsWith 1 = .ok (.istore 4, 2) := by decide +kernel
theorem dX11_oddsWith_3 : decode cX11_oddsWith 3 = .ok (.iload 4, 2) := by decide +kernel
theorem dX11_oddsWith_5 : decode cX11_oddsWith 5 = .ok (.bipush 10, 2) := by decide +kernel
theorem dX11_oddsWith_7 : decode cX11_oddsWith 7 = .ok (.if_icmp .ge 27, 3) := by decide +kernel
theorem dX11_oddsWith_10 : decode cX11_oddsWith 10 = .ok (.aload_n 0, 1) := by decide +kernel
theorem dX11_oddsWith_11 : decode cX11_oddsWith 11 = .ok (.getfield 25, 3) := by decide +kernel
theorem dX11_oddsWith_14 : decode cX11_oddsWith 14 = .ok (.iload 4, 2) := by decide +kernel
theorem dX11_oddsWith_16 : decode cX11_oddsWith 16 = .ok (.iload 4, 2) := by decide +kernel
theorem dX11_oddsWith_18 : decode cX11_oddsWith 18 = .ok (.ifCond .ne 8, 3) := by decide +kernel
theorem dX11_oddsWith_21 : decode cX11_oddsWith 21 = .ok (.ldc 184, 2) := by decide +kernel
theorem dX11_oddsWith_23 : decode cX11_oddsWith 23 = .ok (.goto 4, 3) := by decide +kernel
theorem dX11_oddsWith_26 : decode cX11_oddsWith 26 = .ok (.iconst 0, 1) := by decide +kernel
theorem dX11_oddsWith_27 : decode cX11_oddsWith 27 = .ok (.iastore, 1) := by decide +kernel
theorem dX11_oddsWith_28 : decode cX11_oddsWith 28 = .ok (.iinc 4 1, 3) := by decide +kernel
theorem dX11_oddsWith_31 : decode cX11_oddsWith 31 = .ok (.goto (-28), 3) := by decide +kernel
theorem dX11_oddsWith_34 : decode cX11_oddsWith 34 = .ok (.aload_n 0, 1) := by decide +kernel
theorem dX11_oddsWith_35 : decode cX11_oddsWith 35 = .ok (.iload_n 1, 1) := by decide +kernel
theorem dX11_oddsWith_36 : decode cX11_oddsWith 36 = .ok (.invokevirtual 129, 3) := by decide +kernel
theorem dX11_oddsWith_39 : decode cX11_oddsWith 39 = .ok (.istore 4, 2) := by decide +kernel
theorem dX11_oddsWith_41 : decode cX11_oddsWith 41 = .ok (.aload_n 0, 1) := by decide +kernel
theorem dX11_oddsWith_42 : decode cX11_oddsWith 42 = .ok (.aload_n 0, 1) := by decide +kernel
theorem dX11_oddsWith_43 : decode cX11_oddsWith 43 = .ok (.invokevirtual 107, 3) := by decide +kernel
theorem dX11_oddsWith_46 : decode cX11_oddsWith 46 = .ok (.invokevirtual 129, 3) := by decide +kernel
theorem dX11_oddsWith_49 : decode cX11_oddsWith 49 = .ok (.istore 5, 2) := by decide +kernel
theorem dX11_oddsWith_51 : decode cX11_oddsWith 51 = .ok (.iconst 0, 1) := by decide +kernel
theorem dX11_oddsWith_52 : decode cX11_oddsWith 52 = .ok (.istore 6, 2) := by decide +kernel
theorem dX11_oddsWith_54 : decode cX11_oddsWith 54 = .ok (.iload 6, 2) := by decide +kernel
theorem dX11_oddsWith_56 : decode cX11_oddsWith 56 = .ok (.iload_n 3, 1) := by decide +kernel
theorem dX11_oddsWith_57 : decode cX11_oddsWith 57 = .ok (.if_icmp .ge 76, 3) := by decide +kernel
theorem dX11_oddsWith_60 : decode cX11_oddsWith 60 = .ok (.iload 5, 2) := by decide +kernel
theorem dX11_oddsWith_62 : decode cX11_oddsWith 62 = .ok (.ifCond .le 71, 3) := by decide +kernel
theorem dX11_oddsWith_65 : decode cX11_oddsWith 65 = .ok (.iload 6, 2) := by decide +kernel
theorem dX11_oddsWith_67 : decode cX11_oddsWith 67 = .ok (.istore 7, 2) := by decide +kernel
theorem dX11_oddsWith_69 : decode cX11_oddsWith 69 = .ok (.iload 7, 2) := by decide +kernel
theorem dX11_oddsWith_71 : decode cX11_oddsWith 71 = .ok (.ifCond .lt 56, 3) := by decide +kernel
theorem dX11_oddsWith_74 : decode cX11_oddsWith 74 = .ok (.lconst 1, 1) := by decide +kernel
theorem dX11_oddsWith_75 : decode cX11_oddsWith 75 = .ok (.aload_n 0, 1) := by decide +kernel
theorem dX11_oddsWith_76 : decode cX11_oddsWith 76 = .ok (.getfield 25, 3) := by decide +kernel
theorem dX11_oddsWith_79 : decode cX11_oddsWith 79 = .ok (.iload 7, 2) := by decide +kernel
theorem dX11_oddsWith_81 : decode cX11_oddsWith 81 = .ok (.iaload, 1) := by decide +kernel
theorem dX11_oddsWith_82 : decode cX11_oddsWith 82 = .ok (.i2l, 1) := by decide +kernel
theorem dX11_oddsWith_83 : decode cX11_oddsWith 83 = .ok (.lmul, 1) := by decide +kernel
theorem dX11_oddsWith_84 : decode cX11_oddsWith 84 = .ok (.iload 4, 2) := by decide +kernel
theorem dX11_oddsWith_86 : decode cX11_oddsWith 86 = .ok (.i2l, 1) := by decide +kernel
theorem dX11_oddsWith_87 : decode cX11_oddsWith 87 = .ok (.lmul, 1) := by decide +kernel
theorem dX11_oddsWith_88 : decode cX11_oddsWith 88 = .ok (.iload 5, 2) := by decide +kernel
theorem dX11_oddsWith_90 : decode cX11_oddsWith 90 = .ok (.i2l, 1) := by decide +kernel
theorem dX11_oddsWith_91 : decode cX11_oddsWith 91 = .ok (.ldiv, 1) := by decide +kernel
theorem dX11_oddsWith_92 : decode cX11_oddsWith 92 = .ok (.l2i, 1) := by decide +kernel
theorem dX11_oddsWith_93 : decode cX11_oddsWith 93 = .ok (.istore 8, 2) := by decide +kernel
theorem dX11_oddsWith_95 : decode cX11_oddsWith 95 = .ok (.aload_n 0, 1) := by decide +kernel
theorem dX11_oddsWith_96 : decode cX11_oddsWith 96 = .ok (.getfield 25, 3) := by decide +kernel
theorem dX11_oddsWith_99 : decode cX11_oddsWith 99 = .ok (.iload 7, 2) := by decide +kernel
theorem dX11_oddsWith_101 : decode cX11_oddsWith 101 = .ok (.dup2, 1) := by decide +kernel
theorem dX11_oddsWith_102 : decode cX11_oddsWith 102 = .ok (.iaload, 1) := by decide +kernel
theorem dX11_oddsWith_103 : decode cX11_oddsWith 103 = .ok (.iload 8, 2) := by decide +kernel
theorem dX11_oddsWith_105 : decode cX11_oddsWith 105 = .ok (.isub, 1) := by decide +kernel
theorem dX11_oddsWith_106 : decode cX11_oddsWith 106 = .ok (.iastore, 1) := by decide +kernel
theorem dX11_oddsWith_107 : decode cX11_oddsWith 107 = .ok (.aload_n 0, 1) := by decide +kernel
theorem dX11_oddsWith_108 : decode cX11_oddsWith 108 = .ok (.getfield 25, 3) := by decide +kernel
theorem dX11_oddsWith_111 : decode cX11_oddsWith 111 = .ok (.iload 7, 2) := by decide +kernel
theorem dX11_oddsWith_113 : decode cX11_oddsWith 113 = .ok (.iconst 1, 1) := by decide +kernel
theorem dX11_oddsWith_114 : decode cX11_oddsWith 114 = .ok (.iadd, 1) := by decide +kernel
theorem dX11_oddsWith_115 : decode cX11_oddsWith 115 = .ok (.dup2, 1) := by decide +kernel
theorem dX11_oddsWith_116 : decode cX11_oddsWith 116 = .ok (.iaload, 1) := by decide +kernel
theorem dX11_oddsWith_117 : decode cX11_oddsWith 117 = .ok (.iload 8, 2) := by decide +kernel
theorem dX11_oddsWith_119 : decode cX11_oddsWith 119 = .ok (.iadd, 1) := by decide +kernel
theorem dX11_oddsWith_120 : decode cX11_oddsWith 120 = .ok (.iastore, 1) := by decide +kernel
theorem dX11_oddsWith_121 : decode cX11_oddsWith 121 = .ok (.iinc 7 (-1), 3) := by decide +kernel
theorem dX11_oddsWith_124 : decode cX11_oddsWith 124 = .ok (.goto (-55), 3) := by decide +kernel
theorem dX11_oddsWith_127 : decode cX11_oddsWith 127 = .ok (.iinc 6 1, 3) := by decide +kernel
theorem dX11_oddsWith_130 : decode cX11_oddsWith 130 = .ok (.goto (-76), 3) := by decide +kernel
theorem dX11_oddsWith_133 : decode cX11_oddsWith 133 = .ok (.iconst 0, 1) := by decide +kernel
theorem dX11_oddsWith_134 : decode cX11_oddsWith 134 = .ok (.istore 6, 2) := by decide +kernel
theorem dX11_oddsWith_136 : decode cX11_oddsWith 136 = .ok (.iload_n 2, 1) := by decide +kernel
theorem dX11_oddsWith_137 : decode cX11_oddsWith 137 = .ok (.istore 7, 2) := by decide +kernel
theorem dX11_oddsWith_139 : decode cX11_oddsWith 139 = .ok (.iload 7, 2) := by decide +kernel
theorem dX11_oddsWith_141 : decode cX11_oddsWith 141 = .ok (.bipush 10, 2) := by decide +kernel
theorem dX11_oddsWith_143 : decode cX11_oddsWith 143 = .ok (.if_icmp .ge 21, 3) := by decide +kernel
theorem dX11_oddsWith_146 : decode cX11_oddsWith 146 = .ok (.iload 6, 2) := by decide +kernel
theorem dX11_oddsWith_148 : decode cX11_oddsWith 148 = .ok (.aload_n 0, 1) := by decide +kernel
theorem dX11_oddsWith_149 : decode cX11_oddsWith 149 = .ok (.getfield 25, 3) := by decide +kernel
theorem dX11_oddsWith_152 : decode cX11_oddsWith 152 = .ok (.iload 7, 2) := by decide +kernel
theorem dX11_oddsWith_154 : decode cX11_oddsWith 154 = .ok (.iaload, 1) := by decide +kernel
theorem dX11_oddsWith_155 : decode cX11_oddsWith 155 = .ok (.iadd, 1) := by decide +kernel
theorem dX11_oddsWith_156 : decode cX11_oddsWith 156 = .ok (.istore 6, 2) := by decide +kernel
theorem dX11_oddsWith_158 : decode cX11_oddsWith 158 = .ok (.iinc 7 1, 3) := by decide +kernel
theorem dX11_oddsWith_161 : decode cX11_oddsWith 161 = .ok (.goto (-22), 3) := by decide +kernel
theorem dX11_oddsWith_164 : decode cX11_oddsWith 164 = .ok (.iload 6, 2) := by decide +kernel
theorem dX11_oddsWith_166 : decode cX11_oddsWith 166 = .ok (.ireturn, 1) := by decide +kernel
set_option maxRecDepth 20000 in
theorem ggX11_oddsWithout_X11_weightOf : GoodIn wsX11_oddsWithout wsX11_weightOf := goodIn_r _ [9, 4, 10, 11, 12, 8, 13, 17, 18, 19, 20, 21, 22, 23, 24, 25, 26, 27, 28, 29, 30, 31, 32, 33, 34, 35, 36, 37, 38, 39, 40, 41, 42, 43] (by decide +kernel) (by decide +kernel)
set_option maxRecDepth 20000 in
theorem gX11_oddsWithout_X11_weightOf : GoodIn wsX11_oddsWithout (wsV RX11 129 RX11 yX11_weightOf wsX11_weightOf) := goodIn_app (goodIn_of _ (by decide +kernel)) ggX11_oddsWithout_X11_weightOf
set_option maxRecDepth 20000 in
theorem ggX11_oddsWithout_X11_weight : GoodIn wsX11_oddsWithout wsX11_weight := goodIn_r _ [13, 4, 17, 18, 19, 20, 21, 22, 23, 24, 25, 26, 27, 28, 29, 30, 31, 32, 33, 34, 35, 36, 37, 38, 39, 40, 41, 42, 43] (by decide +kernel) (by decide +kernel)
set_option maxRecDepth 20000 in
theorem gX11_oddsWithout_X11_weight : GoodIn wsX11_oddsWithout (wsV RX11 122 RX11 yX11_weight wsX11_weight) := goodIn_app (goodIn_of _ (by decide +kernel)) ggX11_oddsWithout_X11_weight
set_option maxRecDepth 20000 in
theorem ggX11_oddsWithout_X11_many : GoodIn wsX11_oddsWithout wsX11_many := goodIn_r _ [16] (by decide +kernel) (by decide +kernel)
set_option maxRecDepth 20000 in
theorem gX11_oddsWithout_X11_many : GoodIn wsX11_oddsWithout (va_wsS RX11 185 yX11_many wsX11_many) := goodIn_app (goodIn_of _ (by decide +kernel)) ggX11_oddsWithout_X11_many
theorem dX11_oddsWithout_0 : decode cX11_oddsWithout 0 = .ok (.iconst 0, 1) := by decide +kernel
theorem dX11_oddsWithout_1 : decode cX11_oddsWithout 1 = .ok (.istore 5, 2) := by decide +kernel
theorem dX11_oddsWithout_3 : decode cX11_oddsWithout 3 = .ok (.iload 5, 2) := by decide +kernel
theorem dX11_oddsWithout_5 : decode cX11_oddsWithout 5 = .ok (.sipush 256, 3) := by decide +kernel
theorem dX11_oddsWithout_8 : decode cX11_oddsWithout 8 = .ok (.if_icmp .ge 29, 3) := by decide +kernel
theorem dX11_oddsWithout_11 : decode cX11_oddsWithout 11 = .ok (.aload_n 0, 1) := by decide +kernel
theorem dX11_oddsWithout_12 : decode cX11_oddsWithout 12 = .ok (.getfield 28, 3) := by decide +kernel
theorem dX11_oddsWithout_15 : decode cX11_oddsWithout 15 = .ok (.iload 5, 2) := by decide +kernel
theorem dX11_oddsWithout_17 : decode cX11_oddsWithout 17 = .ok (.iload 5, 2) := by decide +kernel
theorem dX11_oddsWithout_19 : decode cX11_oddsWithout 19 = .ok (.iload 4, 2) := by decide +kernel
theorem dX11_oddsWithout_21 : decode cX11_oddsWithout 21 = .ok (.if_icmp .ne 8, 3) := by decide +kernel
theorem dX11_oddsWithout_24 : decode cX11_oddsWithout 24 = .ok (.ldc 184, 2) := by decide +kernel
theorem dX11_oddsWithout_26 : decode cX11_oddsWithout 26 = .ok (.goto 4, 3) := by decide +kernel
theorem dX11_oddsWithout_29 : decode cX11_oddsWithout 29 = .ok (.iconst 0, 1) := by decide +kernel
theorem dX11_oddsWithout_30 : decode cX11_oddsWithout 30 = .ok (.iastore, 1) := by decide +kernel
theorem dX11_oddsWithout_31 : decode cX11_oddsWithout 31 = .ok (.iinc 5 1, 3) := by decide +kernel
theorem dX11_oddsWithout_34 : decode cX11_oddsWithout 34 = .ok (.goto (-31), 3) := by decide +kernel
theorem dX11_oddsWithout_37 : decode cX11_oddsWithout 37 = .ok (.iconst 0, 1) := by decide +kernel
theorem dX11_oddsWithout_38 : decode cX11_oddsWithout 38 = .ok (.istore 5, 2) := by decide +kernel
theorem dX11_oddsWithout_40 : decode cX11_oddsWithout 40 = .ok (.iload 5, 2) := by decide +kernel
theorem dX11_oddsWithout_42 : decode cX11_oddsWithout 42 = .ok (.iload_n 3, 1) := by decide +kernel
theorem dX11_oddsWithout_43 : decode cX11_oddsWithout 43 = .ok (.if_icmp .ge 190, 3) := by decide +kernel
theorem dX11_oddsWithout_46 : decode cX11_oddsWithout 46 = .ok (.iconst 0, 1) := by decide +kernel
theorem dX11_oddsWithout_47 : decode cX11_oddsWithout 47 = .ok (.istore 6, 2) := by decide +kernel
theorem dX11_oddsWithout_49 : decode cX11_oddsWithout 49 = .ok (.iload 6, 2) := by decide +kernel
theorem dX11_oddsWithout_51 : decode cX11_oddsWithout 51 = .ok (.sipush 256, 3) := by decide +kernel
theorem dX11_oddsWithout_54 : decode cX11_oddsWithout 54 = .ok (.if_icmp .ge 31, 3) := by decide +kernel
theorem dX11_oddsWithout_57 : decode cX11_oddsWithout 57 = .ok (.aload_n 0, 1) := by decide +kernel
theorem dX11_oddsWithout_58 : decode cX11_oddsWithout 58 = .ok (.getfield 31, 3) := by decide +kernel
theorem dX11_oddsWithout_61 : decode cX11_oddsWithout 61 = .ok (.iload 6, 2) := by decide +kernel
theorem dX11_oddsWithout_63 : decode cX11_oddsWithout 63 = .ok (.iload 6, 2) := by decide +kernel
theorem dX11_oddsWithout_65 : decode cX11_oddsWithout 65 = .ok (.ifCond .ne 12, 3) := by decide +kernel
theorem dX11_oddsWithout_68 : decode cX11_oddsWithout 68 = .ok (.aload_n 0, 1) := by decide +kernel
theorem dX11_oddsWithout_69 : decode cX11_oddsWithout 69 = .ok (.getfield 28, 3) := by decide +kernel
theorem dX11_oddsWithout_72 : decode cX11_oddsWithout 72 = .ok (.iconst 0, 1) := by decide +kernel
theorem dX11_oddsWithout_73 : decode cX11_oddsWithout 73 = .ok (.iaload, 1) := by decide +kernel
theorem dX11_oddsWithout_74 : decode cX11_oddsWithout 74 = .ok (.goto 4, 3) := by decide +kernel
theorem dX11_oddsWithout_77 : decode cX11_oddsWithout 77 = .ok (.iconst 0, 1) := by decide +kernel
theorem dX11_oddsWithout_78 : decode cX11_oddsWithout 78 = .ok (.iastore, 1) := by decide +kernel
theorem dX11_oddsWithout_79 : decode cX11_oddsWithout 79 = .ok (.iinc 6 1, 3) := by decide +kernel
theorem dX11_oddsWithout_82 : decode cX11_oddsWithout 82 = .ok (.goto (-33), 3) := by decide +kernel
theorem dX11_oddsWithout_85 : decode cX11_oddsWithout 85 = .ok (.iconst 1, 1) := by decide +kernel
theorem dX11_oddsWithout_86 : decode cX11_oddsWithout 86 = .ok (.istore 6, 2) := by decide +kernel
theorem dX11_oddsWithout_88 : decode cX11_oddsWithout 88 = .ok (.iload 6, 2) := by decide +kernel
theorem dX11_oddsWithout_90 : decode cX11_oddsWithout 90 = .ok (.iconst 1, 1) := by decide +kernel
theorem dX11_oddsWithout_91 : decode cX11_oddsWithout 91 = .ok (.aload_n 0, 1) := by decide +kernel
theorem dX11_oddsWithout_92 : decode cX11_oddsWithout 92 = .ok (.getfield 13, 3) := by decide +kernel
theorem dX11_oddsWithout_95 : decode cX11_oddsWithout 95 = .ok (.iconst 1, 1) := by decide +kernel
theorem dX11_oddsWithout_96 : decode cX11_oddsWithout 96 = .ok (.iaload, 1) := by decide +kernel
theorem dX11_oddsWithout_97 : decode cX11_oddsWithout 97 = .ok (.ishl, 1) := by decide +kernel
theorem dX11_oddsWithout_98 : decode cX11_oddsWithout 98 = .ok (.if_icmp .ge 98, 3) := by decide +kernel
theorem dX11_oddsWithout_101 : decode cX11_oddsWithout 101 = .ok (.aload_n 0, 1) := by decide +kernel
theorem dX11_oddsWithout_102 : decode cX11_oddsWithout 102 = .ok (.iload 6, 2) := by decide +kernel
theorem dX11_oddsWithout_104 : decode cX11_oddsWithout 104 = .ok (.invokevirtual 129, 3) := by decide +kernel
theorem dX11_oddsWithout_107 : decode cX11_oddsWithout 107 = .ok (.istore 7, 2) := by decide +kernel
theorem dX11_oddsWithout_109 : decode cX11_oddsWithout 109 = .ok (.iconst 0, 1) := by decide +kernel
theorem dX11_oddsWithout_110 : decode cX11_oddsWithout 110 = .ok (.istore 8, 2) := by decide +kernel
theorem dX11_oddsWithout_112 : decode cX11_oddsWithout 112 = .ok (.iload 8, 2) := by decide +kernel
theorem dX11_oddsWithout_114 : decode cX11_oddsWithout 114 = .ok (.aload_n 0, 1) := by decide +kernel
theorem dX11_oddsWithout_115 : decode cX11_oddsWithout 115 = .ok (.getfield 13, 3) := by decide +kernel
theorem dX11_oddsWithout_118 : decode cX11_oddsWithout 118 = .ok (.iconst 1, 1) := by decide +kernel
theorem dX11_oddsWithout_119 : decode cX11_oddsWithout 119 = .ok (.iaload, 1) := by decide +kernel
theorem dX11_oddsWithout_120 : decode cX11_oddsWithout 120 = .ok (.if_icmp .ge 70, 3) := by decide +kernel
theorem dX11_oddsWithout_123 : decode cX11_oddsWithout 123 = .ok (.aload_n 0, 1) := by decide +kernel
theorem dX11_oddsWithout_124 : decode cX11_oddsWithout 124 = .ok (.getfield 28, 3) := by decide +kernel
theorem dX11_oddsWithout_127 : decode cX11_oddsWithout 127 = .ok (.iload 6, 2) := by decide +kernel
theorem dX11_oddsWithout_129 : decode cX11_oddsWithout 129 = .ok (.iaload, 1) := by decide +kernel
theorem dX11_oddsWithout_130 : decode cX11_oddsWithout 130 = .ok (.ifCond .le 60, 3) := by decide +kernel
theorem dX11_oddsWithout_133 : decode cX11_oddsWithout 133 = .ok (.iload 6, 2) := by decide +kernel
theorem dX11_oddsWithout_135 : decode cX11_oddsWithout 135 = .ok (.iload 8, 2) := by decide +kernel
theorem dX11_oddsWithout_137 : decode cX11_oddsWithout 137 = .ok (.ishr, 1) := by decide +kernel
theorem dX11_oddsWithout_138 : decode cX11_oddsWithout 138 = .ok (.iconst 1, 1) := by decide +kernel
theorem dX11_oddsWithout_139 : decode cX11_oddsWithout 139 = .ok (.iand, 1) := by decide +kernel
theorem dX11_oddsWithout_140 : decode cX11_oddsWithout 140 = .ok (.iconst 1, 1) := by decide +kernel
theorem dX11_oddsWithout_141 : decode cX11_oddsWithout 141 = .ok (.if_icmp .ne 43, 3) := by decide +kernel
theorem dX11_oddsWithout_144 : decode cX11_oddsWithout 144 = .ok (.aload_n 0, 1) := by decide +kernel
theorem dX11_oddsWithout_145 : decode cX11_oddsWithout 145 = .ok (.getfield 31, 3) := by decide +kernel
theorem dX11_oddsWithout_148 : decode cX11_oddsWithout 148 = .ok (.iload 6, 2) := by decide +kernel
theorem dX11_oddsWithout_150 : decode cX11_oddsWithout 150 = .ok (.iconst 1, 1) := by decide +kernel
theorem dX11_oddsWithout_151 : decode cX11_oddsWithout 151 = .ok (.iload 8, 2) := by decide +kernel
theorem dX11_oddsWithout_153 : decode cX11_oddsWithout 153 = .ok (.ishl, 1) := by decide +kernel
theorem dX11_oddsWithout_154 : decode cX11_oddsWithout 154 = .ok (.iconst (-1), 1) := by decide +kernel
theorem dX11_oddsWithout_155 : decode cX11_oddsWithout 155 = .ok (.ixor, 1) := by decide +kernel
theorem dX11_oddsWithout_156 : decode cX11_oddsWithout 156 = .ok (.iand, 1) := by decide +kernel
theorem dX11_oddsWithout_157 : decode cX11_oddsWithout 157 = .ok (.dup2, 1) := by decide +kernel
theorem dX11_oddsWithout_158 : decode cX11_oddsWithout 158 = .ok (.iaload, 1) := by decide +kernel
theorem dX11_oddsWithout_159 : decode cX11_oddsWithout 159 = .ok (.lconst 1, 1) := by decide +kernel
theorem dX11_oddsWithout_160 : decode cX11_oddsWithout 160 = .ok (.aload_n 0, 1) := by decide +kernel
theorem dX11_oddsWithout_161 : decode cX11_oddsWithout 161 = .ok (.getfield 28, 3) := by decide +kernel
theorem dX11_oddsWithout_164 : decode cX11_oddsWithout 164 = .ok (.iload 6, 2) := by decide +kernel
theorem dX11_oddsWithout_166 : decode cX11_oddsWithout 166 = .ok (.iaload, 1) := by decide +kernel
theorem dX11_oddsWithout_167 : decode cX11_oddsWithout 167 = .ok (.i2l, 1) := by decide +kernel
theorem dX11_oddsWithout_168 : decode cX11_oddsWithout 168 = .ok (.lmul, 1) := by decide +kernel
theorem dX11_oddsWithout_169 : decode cX11_oddsWithout 169 = .ok (.aload_n 0, 1) := by decide +kernel
theorem dX11_oddsWithout_170 : decode cX11_oddsWithout 170 = .ok (.iload 8, 2) := by decide +kernel
theorem dX11_oddsWithout_172 : decode cX11_oddsWithout 172 = .ok (.invokevirtual 122, 3) := by decide +kernel
theorem dX11_oddsWithout_175 : decode cX11_oddsWithout 175 = .ok (.i2l, 1) := by decide +kernel
theorem dX11_oddsWithout_176 : decode cX11_oddsWithout 176 = .ok (.lmul, 1) := by decide +kernel
theorem dX11_oddsWithout_177 : decode cX11_oddsWithout 177 = .ok (.iload 7, 2) := by decide +kernel
theorem dX11_oddsWithout_179 : decode cX11_oddsWithout 179 = .ok (.i2l, 1) := by decide +kernel
theorem dX11_oddsWithout_180 : decode cX11_oddsWithout 180 = .ok (.ldiv, 1) := by decide +kernel
theorem dX11_oddsWithout_181 : decode cX11_oddsWithout 181 = .ok (.l2i, 1) := by decide +kernel
theorem dX11_oddsWithout_182 : decode cX11_oddsWithout 182 = .ok (.iadd, 1) := by decide +kernel
theorem dX11_oddsWithout_183 : decode cX11_oddsWithout 183 = .ok (.iastore, 1) := by decide +kernel
theorem dX11_oddsWithout_184 : decode cX11_oddsWithout 184 = .ok (.iinc 8 1, 3) := by decide +kernel
theorem dX11_oddsWithout_187 : decode cX11_oddsWithout 187 = .ok (.goto (-75), 3) := by decide +kernel
theorem dX11_oddsWithout_190 : decode cX11_oddsWithout 190 = .ok (.iinc 6 1, 3) := by decide +kernel
theorem dX11_oddsWithout_193 : decode cX11_oddsWithout 193 = .ok (.goto (-105), 3) := by decide +kernel
theorem dX11_oddsWithout_196 : decode cX11_oddsWithout 196 = .ok (.iconst 0, 1) := by decide +kernel
theorem dX11_oddsWithout_197 : decode cX11_oddsWithout 197 = .ok (.istore 6, 2) := by decide +kernel
theorem dX11_oddsWithout_199 : decode cX11_oddsWithout 199 = .ok (.iload 6, 2) := by decide +kernel
theorem dX11_oddsWithout_201 : decode cX11_oddsWithout 201 = .ok (.sipush 256, 3) := by decide +kernel
theorem dX11_oddsWithout_204 : decode cX11_oddsWithout 204 = .ok (.if_icmp .ge 23, 3) := by decide +kernel
theorem dX11_oddsWithout_207 : decode cX11_oddsWithout 207 = .ok (.aload_n 0, 1) := by decide +kernel
theorem dX11_oddsWithout_208 : decode cX11_oddsWithout 208 = .ok (.getfield 28, 3) := by decide +kernel
theorem dX11_oddsWithout_211 : decode cX11_oddsWithout 211 = .ok (.iload 6, 2) := by decide +kernel
theorem dX11_oddsWithout_213 : decode cX11_oddsWithout 213 = .ok (.aload_n 0, 1) := by decide +kernel
theorem dX11_oddsWithout_214 : decode cX11_oddsWithout 214 = .ok (.getfield 31, 3) := by decide +kernel
theorem dX11_oddsWithout_217 : decode cX11_oddsWithout 217 = .ok (.iload 6, 2) := by decide +kernel
theorem dX11_oddsWithout_219 : decode cX11_oddsWithout 219 = .ok (.iaload, 1) := by decide +kernel
theorem dX11_oddsWithout_220 : decode cX11_oddsWithout 220 = .ok (.iastore, 1) := by decide +kernel
theorem dX11_oddsWithout_221 : decode cX11_oddsWithout 221 = .ok (.iinc 6 1, 3) := by decide +kernel
theorem dX11_oddsWithout_224 : decode cX11_oddsWithout 224 = .ok (.goto (-25), 3) := by decide +kernel
theorem dX11_oddsWithout_227 : decode cX11_oddsWithout 227 = .ok (.iinc 5 1, 3) := by decide +kernel
theorem dX11_oddsWithout_230 : decode cX11_oddsWithout 230 = .ok (.goto (-190), 3) := by decide +kernel
theorem dX11_oddsWithout_233 : decode cX11_oddsWithout 233 = .ok (.iconst 0, 1) := by decide +kernel
theorem dX11_oddsWithout_234 : decode cX11_oddsWithout 234 = .ok (.istore 5, 2) := by decide +kernel
theorem dX11_oddsWithout_236 : decode cX11_oddsWithout 236 = .ok (.iconst 0, 1) := by decide +kernel
theorem dX11_oddsWithout_237 : decode cX11_oddsWithout 237 = .ok (.istore 6, 2) := by decide +kernel
theorem dX11_oddsWithout_239 : decode cX11_oddsWithout 239 = .ok (.iload 6, 2) := by decide +kernel
theorem dX11_oddsWithout_241 : decode cX11_oddsWithout 241 = .ok (.iconst 1, 1) := by decide +kernel
theorem dX11_oddsWithout_242 : decode cX11_oddsWithout 242 = .ok (.aload_n 0, 1) := by decide +kernel
theorem dX11_oddsWithout_243 : decode cX11_oddsWithout 243 = .ok (.getfield 13, 3) := by decide +kernel
theorem dX11_oddsWithout_246 : decode cX11_oddsWithout 246 = .ok (.iconst 1, 1) := by decide +kernel
theorem dX11_oddsWithout_247 : decode cX11_oddsWithout 247 = .ok (.iaload, 1) := by decide +kernel
theorem dX11_oddsWithout_248 : decode cX11_oddsWithout 248 = .ok (.ishl, 1) := by decide +kernel
theorem dX11_oddsWithout_249 : decode cX11_oddsWithout 249 = .ok (.if_icmp .ge 41, 3) := by decide +kernel
theorem dX11_oddsWithout_252 : decode cX11_oddsWithout 252 = .ok (.iload 5, 2) := by decide +kernel
theorem dX11_oddsWithout_254 : decode cX11_oddsWithout 254 = .ok (.iload 4, 2) := by decide +kernel
theorem dX11_oddsWithout_256 : decode cX11_oddsWithout 256 = .ok (.iload_n 1, 1) := by decide +kernel
theorem dX11_oddsWithout_257 : decode cX11_oddsWithout 257 = .ok (.iand, 1) := by decide +kernel
theorem dX11_oddsWithout_258 : decode cX11_oddsWithout 258 = .ok (.iload 6, 2) := by decide +kernel
theorem dX11_oddsWithout_260 : decode cX11_oddsWithout 260 = .ok (.iconst (-1), 1) := by decide +kernel
theorem dX11_oddsWithout_261 : decode cX11_oddsWithout 261 = .ok (.ixor, 1) := by decide +kernel
theorem dX11_oddsWithout_262 : decode cX11_oddsWithout 262 = .ok (.iand, 1) := by decide +kernel
theorem dX11_oddsWithout_263 : decode cX11_oddsWithout 263 = .ok (.invokestatic 185, 3) := by decide +kernel
theorem dX11_oddsWithout_266 : decode cX11_oddsWithout 266 = .ok (.iload_n 2, 1) := by decide +kernel
theorem dX11_oddsWithout_267 : decode cX11_oddsWithout 267 = .ok (.if_icmp .lt 13, 3) := by decide +kernel
theorem dX11_oddsWithout_270 : decode cX11_oddsWithout 270 = .ok (.aload_n 0, 1) := by decide +kernel
theorem dX11_oddsWithout_271 : decode cX11_oddsWithout 271 = .ok (.getfield 28, 3) := by decide +kernel
theorem dX11_oddsWithout_274 : decode cX11_oddsWithout 274 = .ok (.iload 6, 2) := by decide +kernel
theorem dX11_oddsWithout_276 : decode cX11_oddsWithout 276 = .ok (.iaload, 1) := by decide +kernel
theorem dX11_oddsWithout_277 : decode cX11_oddsWithout 277 = .ok (.goto 4, 3) := by decide +kernel
theorem dX11_oddsWithout_280 : decode cX11_oddsWithout 280 = .ok (.iconst 0, 1) := by decide +kernel
theorem dX11_oddsWithout_281 : decode cX11_oddsWithout 281 = .ok (.iadd, 1) := by decide +kernel
theorem dX11_oddsWithout_282 : decode cX11_oddsWithout 282 = .ok (.istore 5, 2) := by decide +kernel
theorem dX11_oddsWithout_284 : decode cX11_oddsWithout 284 = .ok (.iinc 6 1, 3) := by decide +kernel
theorem dX11_oddsWithout_287 : decode cX11_oddsWithout 287 = .ok (.goto (-48), 3) := by decide +kernel
theorem dX11_oddsWithout_290 : decode cX11_oddsWithout 290 = .ok (.iload 5, 2) := by decide +kernel
theorem dX11_oddsWithout_292 : decode cX11_oddsWithout 292 = .ok (.ireturn, 1) := by decide +kernel
theorem dX11_rest_0 : decode cX11_rest 0 = .ok (.aload_n 0, 1) := by decide +kernel
theorem dX11_rest_1 : decode cX11_rest 1 = .ok (.getfield 13, 3) := by decide +kernel
theorem dX11_rest_4 : decode cX11_rest 4 = .ok (.iconst 2, 1) := by decide +kernel
theorem dX11_rest_5 : decode cX11_rest 5 = .ok (.iaload, 1) := by decide +kernel
theorem dX11_rest_6 : decode cX11_rest 6 = .ok (.aload_n 0, 1) := by decide +kernel
theorem dX11_rest_7 : decode cX11_rest 7 = .ok (.getfield 19, 3) := by decide +kernel
theorem dX11_rest_10 : decode cX11_rest 10 = .ok (.iconst 1, 1) := by decide +kernel
theorem dX11_rest_11 : decode cX11_rest 11 = .ok (.iaload, 1) := by decide +kernel
theorem dX11_rest_12 : decode cX11_rest 12 = .ok (.isub, 1) := by decide +kernel
theorem dX11_rest_13 : decode cX11_rest 13 = .ok (.ireturn, 1) := by decide +kernel
set_option maxRecDepth 20000 in
theorem ggX11_odds_X11_isPerson : GoodIn wsX11_odds wsX11_isPerson := goodIn_r _ [9, 10, 11, 12, 8, 13, 57, 58, 59, 60, 61, 62, 63, 64, 65, 66, 67, 68, 69, 70, 71, 72, 73, 74, 75, 76, 77, 78, 79, 80, 81, 82, 83] (by decide +kernel) (by decide +kernel)
set_option maxRecDepth 20000 in
theorem gX11_odds_X11_isPerson : GoodIn wsX11_odds (wsV RX11 135 RX11 yX11_isPerson wsX11_isPerson) := goodIn_app (goodIn_of _ (by decide +kernel)) ggX11_odds_X11_isPerson
set_option maxRecDepth 20000 in
theorem ggX11_odds_X11_in : GoodIn wsX11_odds wsX11_in := goodIn_r _ [13] (by decide +kernel) (by decide +kernel)
set_option maxRecDepth 20000 in
theorem gX11_odds_X11_in : GoodIn wsX11_odds (va_wsS RX11 67 yX11_in wsX11_in) := goodIn_app (goodIn_of _ (by decide +kernel)) ggX11_odds_X11_in
set_option maxRecDepth 20000 in
theorem ggX11_odds_X11_own : GoodIn wsX11_odds wsX11_own := goodIn_r _ [17, 10, 18, 19, 20, 8, 21, 3, 57, 58, 59, 60, 61, 62, 63, 64, 65, 66, 67, 68, 69, 70, 71, 72, 73, 74, 75, 76, 77, 78, 79, 80, 81, 82, 83] (by decide +kernel) (by decide +kernel)
set_option maxRecDepth 20000 in
theorem gX11_odds_X11_own : GoodIn wsX11_odds (wsV RX11 143 RX11 yX11_own wsX11_own) := goodIn_app (goodIn_of _ (by decide +kernel)) ggX11_odds_X11_own
set_option maxRecDepth 20000 in
theorem ggX11_odds_X11_rest : GoodIn wsX11_odds wsX11_rest := goodIn_r _ [25, 10, 3, 57, 58, 59, 60, 61, 62, 63, 64, 65, 66, 67, 68, 69, 70, 71, 72, 73, 74, 75, 76, 77, 78, 79, 80, 81, 82, 83] (by decide +kernel) (by decide +kernel)
set_option maxRecDepth 20000 in
theorem gX11_odds_X11_rest : GoodIn wsX11_odds (wsV RX11 190 RX11 yX11_rest wsX11_rest) := goodIn_app (goodIn_of _ (by decide +kernel)) ggX11_odds_X11_rest
set_option maxRecDepth 20000 in
theorem ggX11_odds_X11_oddsOf : GoodIn wsX11_odds wsX11_oddsOf := goodIn_r _ [29, 10, 30, 31, 32, 8, 33, 34, 35, 36, 37, 38, 39, 40, 41, 42, 43, 44, 45, 46, 47, 48, 49, 50, 51, 52, 53, 54, 55, 56, 57, 58, 59, 60, 61, 62, 63, 64, 65, 66, 67, 68, 69, 70, 71, 72, 73, 74, 75, 76, 77, 78, 79, 80, 81, 82, 83] (by decide +kernel) (by decide +kernel)
set_option maxRecDepth 20000 in
theorem gX11_odds_X11_oddsOf : GoodIn wsX11_odds (wsV RX11 193 RX11 yX11_oddsOf wsX11_oddsOf) := goodIn_app (goodIn_of _ (by decide +kernel)) ggX11_odds_X11_oddsOf
theorem dX11_odds_0 : decode cX11_odds 0 = .ok (.aload_n 0, 1) := by decide +kernel
theorem dX11_odds_1 : decode cX11_odds 1 = .ok (.iload_n 1, 1) := by decide +kernel
theorem dX11_odds_2 : decode cX11_odds 2 = .ok (.invokevirtual 135, 3) := by decide +kernel
theorem dX11_odds_5 : decode cX11_odds 5 = .ok (.ifCond .ne 6, 3) := by decide +kernel
theorem dX11_odds_8 : decode cX11_odds 8 = .ok (.ldc 139, 2) := by decide +kernel
theorem dX11_odds_10 : decode cX11_odds 10 = .ok (.ireturn, 1) := by decide +kernel
theorem dX11_odds_11 : decode cX11_odds 11 = .ok (.iload_n 2, 1) := by decide +kernel
theorem dX11_odds_12 : decode cX11_odds 12 = .ok (.i2l, 1) := by decide +kernel
theorem dX11_odds_13 : decode cX11_odds 13 = .ok (.lconst 0, 1) := by decide +kernel
theorem dX11_odds_14 : decode cX11_odds 14 = .ok (.ldc2_w 188, 3) := by decide +kernel
theorem dX11_odds_17 : decode cX11_odds 17 = .ok (.invokestatic 67, 3) := by decide +kernel
theorem dX11_odds_20 : decode cX11_odds 20 = .ok (.ifCond .eq 26, 3) := by decide +kernel
theorem dX11_odds_23 : decode cX11_odds 23 = .ok (.aload_n 0, 1) := by decide +kernel
theorem dX11_odds_24 : decode cX11_odds 24 = .ok (.aload_n 0, 1) := by decide +kernel
theorem dX11_odds_25 : decode cX11_odds 25 = .ok (.iload_n 1, 1) := by decide +kernel
theorem dX11_odds_26 : decode cX11_odds 26 = .ok (.invokevirtual 143, 3) := by decide +kernel
theorem dX11_odds_29 : decode cX11_odds 29 = .ok (.iload_n 2, 1) := by decide +kernel
theorem dX11_odds_30 : decode cX11_odds 30 = .ok (.aload_n 0, 1) := by decide +kernel
theorem dX11_odds_31 : decode cX11_odds 31 = .ok (.invokevirtual 190, 3) := by decide +kernel
theorem dX11_odds_34 : decode cX11_odds 34 = .ok (.aload_n 0, 1) := by decide +kernel
theorem dX11_odds_35 : decode cX11_odds 35 = .ok (.getfield 19, 3) := by decide +kernel
theorem dX11_odds_38 : decode cX11_odds 38 = .ok (.iconst 2, 1) := by decide +kernel
theorem dX11_odds_39 : decode cX11_odds 39 = .ok (.iaload, 1) := by decide +kernel
theorem dX11_odds_40 : decode cX11_odds 40 = .ok (.invokevirtual 193, 3) := by decide +kernel
theorem dX11_odds_43 : decode cX11_odds 43 = .ok (.goto 5, 3) := by decide +kernel
theorem dX11_odds_46 : decode cX11_odds 46 = .ok (.ldc 71, 2) := by decide +kernel
theorem dX11_odds_48 : decode cX11_odds 48 = .ok (.ireturn, 1) := by decide +kernel
set_option maxRecDepth 20000 in
theorem ggX11_never_X11_isPerson : GoodIn wsX11_never wsX11_isPerson := goodIn_r _ [11, 5, 12, 13, 10, 14, 54, 55, 56, 57, 58, 59, 60, 61, 62, 63, 64, 65, 66, 67, 68, 69, 70, 71, 72, 73, 74, 75, 76, 77, 78, 79, 80] (by decide +kernel) (by decide +kernel)
set_option maxRecDepth 20000 in
theorem gX11_never_X11_isPerson : GoodIn wsX11_never (wsV RX11 135 RX11 yX11_isPerson wsX11_isPerson) := goodIn_app (goodIn_of _ (by decide +kernel)) ggX11_never_X11_isPerson
set_option maxRecDepth 20000 in
theorem ggX11_never_X11_in : GoodIn wsX11_never wsX11_in := goodIn_r _ [14] (by decide +kernel) (by decide +kernel)
set_option maxRecDepth 20000 in
theorem gX11_never_X11_in : GoodIn wsX11_never (va_wsS RX11 67 yX11_in wsX11_in) := goodIn_app (goodIn_of _ (by decide +kernel)) ggX11_never_X11_in
set_option maxRecDepth 20000 in
theorem ggX11_never_X11_own : GoodIn wsX11_never wsX11_own := goodIn_r _ [18, 5, 19, 20, 21, 10, 22, 23, 54, 55, 56, 57, 58, 59, 60, 61, 62, 63, 64, 65, 66, 67, 68, 69, 70, 71, 72, 73, 74, 75, 76, 77, 78, 79, 80] (by decide +kernel) (by decide +kernel)
set_option maxRecDepth 20000 in
theorem gX11_never_X11_own : GoodIn wsX11_never (wsV RX11 143 RX11 yX11_own wsX11_own) := goodIn_app (goodIn_of _ (by decide +kernel)) ggX11_never_X11_own
set_option maxRecDepth 20000 in
theorem ggX11_never_X11_all : GoodIn wsX11_never wsX11_all := goodIn_r _ [27, 5, 54, 55, 56, 57, 58, 59, 60, 61, 62, 63, 64, 65, 66, 67, 68, 69, 70, 71, 72, 73, 74, 75, 76, 77, 78, 79, 80] (by decide +kernel) (by decide +kernel)
set_option maxRecDepth 20000 in
theorem gX11_never_X11_all : GoodIn wsX11_never (wsV RX11 107 RX11 yX11_all wsX11_all) := goodIn_app (goodIn_of _ (by decide +kernel)) ggX11_never_X11_all
set_option maxRecDepth 20000 in
theorem ggX11_never_X11_oddsOf : GoodIn wsX11_never wsX11_oddsOf := goodIn_r _ [31, 5, 32, 33, 34, 10, 35, 36, 4, 37, 38, 39, 40, 41, 42, 43, 44, 24, 25, 26, 27, 45, 46, 47, 48, 49, 50, 51, 52, 53, 54, 55, 56, 57, 58, 59, 60, 61, 62, 63, 64, 65, 66, 67, 68, 69, 70, 71, 72, 73, 74, 75, 76, 77, 78, 79, 80] (by decide +kernel) (by decide +kernel)
set_option maxRecDepth 20000 in
theorem gX11_never_X11_oddsOf : GoodIn wsX11_never (wsV RX11 193 RX11 yX11_oddsOf wsX11_oddsOf) := goodIn_app (goodIn_of _ (by decide +kernel)) ggX11_never_X11_oddsOf
theorem dX11_never_0 : decode cX11_never 0 = .ok (.aload_n 0, 1) := by decide +kernel
theorem dX11_never_1 : decode cX11_never 1 = .ok (.iload_n 1, 1) := by decide +kernel
theorem dX11_never_2 : decode cX11_never 2 = .ok (.invokevirtual 135, 3) := by decide +kernel
theorem dX11_never_5 : decode cX11_never 5 = .ok (.ifCond .ne 6, 3) := by decide +kernel
theorem dX11_never_8 : decode cX11_never 8 = .ok (.ldc 139, 2) := by decide +kernel
theorem dX11_never_10 : decode cX11_never 10 = .ok (.ireturn, 1) := by decide +kernel
theorem dX11_never_11 : decode cX11_never 11 = .ok (.iload_n 2, 1) := by decide +kernel
theorem dX11_never_12 : decode cX11_never 12 = .ok (.i2l, 1) := by decide +kernel
theorem dX11_never_13 : decode cX11_never 13 = .ok (.lconst 1, 1) := by decide +kernel
theorem dX11_never_14 : decode cX11_never 14 = .ok (.ldc2_w 169, 3) := by decide +kernel
theorem dX11_never_17 : decode cX11_never 17 = .ok (.invokestatic 67, 3) := by decide +kernel
theorem dX11_never_20 : decode cX11_never 20 = .ok (.ifCond .ne 6, 3) := by decide +kernel
theorem dX11_never_23 : decode cX11_never 23 = .ok (.ldc 71, 2) := by decide +kernel
theorem dX11_never_25 : decode cX11_never 25 = .ok (.ireturn, 1) := by decide +kernel
theorem dX11_never_26 : decode cX11_never 26 = .ok (.ldc 184, 2) := by decide +kernel
theorem dX11_never_28 : decode cX11_never 28 = .ok (.aload_n 0, 1) := by decide +kernel
theorem dX11_never_29 : decode cX11_never 29 = .ok (.aload_n 0, 1) := by decide +kernel
theorem dX11_never_30 : decode cX11_never 30 = .ok (.iload_n 1, 1) := by decide +kernel
theorem dX11_never_31 : decode cX11_never 31 = .ok (.invokevirtual 143, 3) := by decide +kernel
theorem dX11_never_34 : decode cX11_never 34 = .ok (.iconst 1, 1) := by decide +kernel
theorem dX11_never_35 : decode cX11_never 35 = .ok (.aload_n 0, 1) := by decide +kernel
theorem dX11_never_36 : decode cX11_never 36 = .ok (.getfield 13, 3) := by decide +kernel
theorem dX11_never_39 : decode cX11_never 39 = .ok (.iconst 2, 1) := by decide +kernel
theorem dX11_never_40 : decode cX11_never 40 = .ok (.iaload, 1) := by decide +kernel
theorem dX11_never_41 : decode cX11_never 41 = .ok (.aload_n 0, 1) := by decide +kernel
theorem dX11_never_42 : decode cX11_never 42 = .ok (.invokevirtual 107, 3) := by decide +kernel
theorem dX11_never_45 : decode cX11_never 45 = .ok (.invokevirtual 193, 3) := by decide +kernel
theorem dX11_never_48 : decode cX11_never 48 = .ok (.isub, 1) := by decide +kernel
theorem dX11_never_49 : decode cX11_never 49 = .ok (.i2l, 1) := by decide +kernel
theorem dX11_never_50 : decode cX11_never 50 = .ok (.lstore_n 3, 1) := by decide +kernel
theorem dX11_never_51 : decode cX11_never 51 = .ok (.ldc2_w 196, 3) := by decide +kernel
theorem dX11_never_54 : decode cX11_never 54 = .ok (.lstore 5, 2) := by decide +kernel
theorem dX11_never_56 : decode cX11_never 56 = .ok (.iconst 0, 1) := by decide +kernel
theorem dX11_never_57 : decode cX11_never 57 = .ok (.istore 7, 2) := by decide +kernel
theorem dX11_never_59 : decode cX11_never 59 = .ok (.iload 7, 2) := by decide +kernel
theorem dX11_never_61 : decode cX11_never 61 = .ok (.iload_n 2, 1) := by decide +kernel
theorem dX11_never_62 : decode cX11_never 62 = .ok (.if_icmp .ge 19, 3) := by decide +kernel
theorem dX11_never_65 : decode cX11_never 65 = .ok (.lload 5, 2) := by decide +kernel
theorem dX11_never_67 : decode cX11_never 67 = .ok (.lload_n 3, 1) := by decide +kernel
theorem dX11_never_68 : decode cX11_never 68 = .ok (.lmul, 1) := by decide +kernel
theorem dX11_never_69 : decode cX11_never 69 = .ok (.ldc2_w 196, 3) := by decide +kernel
theorem dX11_never_72 : decode cX11_never 72 = .ok (.ldiv, 1) := by decide +kernel
theorem dX11_never_73 : decode cX11_never 73 = .ok (.lstore 5, 2) := by decide +kernel
theorem dX11_never_75 : decode cX11_never 75 = .ok (.iinc 7 1, 3) := by decide +kernel
theorem dX11_never_78 : decode cX11_never 78 = .ok (.goto (-19), 3) := by decide +kernel
theorem dX11_never_81 : decode cX11_never 81 = .ok (.lload 5, 2) := by decide +kernel
theorem dX11_never_83 : decode cX11_never 83 = .ok (.l2i, 1) := by decide +kernel
theorem dX11_never_84 : decode cX11_never 84 = .ok (.ireturn, 1) := by decide +kernel
set_option maxRecDepth 20000 in
theorem ggX11_buy_X11_isPerson : GoodIn wsX11_buy wsX11_isPerson := goodIn_r _ [12, 5, 13, 14, 11, 15, 59, 60, 61, 62, 63, 64, 65, 66, 67, 68, 69, 70, 71, 72, 73, 74, 75, 76, 77, 78, 79, 80, 81, 82, 83, 84, 85] (by decide +kernel) (by decide +kernel)
set_option maxRecDepth 20000 in
theorem gX11_buy_X11_isPerson : GoodIn wsX11_buy (wsV RX11 135 RX11 yX11_isPerson wsX11_isPerson) := goodIn_app (goodIn_of _ (by decide +kernel)) ggX11_buy_X11_isPerson
set_option maxRecDepth 20000 in
theorem ggX11_buy_X11_in : GoodIn wsX11_buy wsX11_in := goodIn_r _ [15] (by decide +kernel) (by decide +kernel)
set_option maxRecDepth 20000 in
theorem gX11_buy_X11_in : GoodIn wsX11_buy (va_wsS RX11 67 yX11_in wsX11_in) := goodIn_app (goodIn_of _ (by decide +kernel)) ggX11_buy_X11_in
set_option maxRecDepth 20000 in
theorem ggX11_buy_X11_all : GoodIn wsX11_buy wsX11_all := goodIn_r _ [19, 5, 59, 60, 61, 62, 63, 64, 65, 66, 67, 68, 69, 70, 71, 72, 73, 74, 75, 76, 77, 78, 79, 80, 81, 82, 83, 84, 85] (by decide +kernel) (by decide +kernel)
set_option maxRecDepth 20000 in
theorem gX11_buy_X11_all : GoodIn wsX11_buy (wsV RX11 107 RX11 yX11_all wsX11_all) := goodIn_app (goodIn_of _ (by decide +kernel)) ggX11_buy_X11_all
set_option maxRecDepth 20000 in
theorem ggX11_buy_X11_many : GoodIn wsX11_buy wsX11_many := goodIn_r _ [22] (by decide +kernel) (by decide +kernel)
set_option maxRecDepth 20000 in
theorem gX11_buy_X11_many : GoodIn wsX11_buy (va_wsS RX11 185 yX11_many wsX11_many) := goodIn_app (goodIn_of _ (by decide +kernel)) ggX11_buy_X11_many
set_option maxRecDepth 20000 in
theorem ggX11_buy_X11_own : GoodIn wsX11_buy wsX11_own := goodIn_r _ [26, 5, 27, 28, 29, 11, 30, 6, 59, 60, 61, 62, 63, 64, 65, 66, 67, 68, 69, 70, 71, 72, 73, 74, 75, 76, 77, 78, 79, 80, 81, 82, 83, 84, 85] (by decide +kernel) (by decide +kernel)
set_option maxRecDepth 20000 in
theorem gX11_buy_X11_own : GoodIn wsX11_buy (wsV RX11 143 RX11 yX11_own wsX11_own) := goodIn_app (goodIn_of _ (by decide +kernel)) ggX11_buy_X11_own
set_option maxRecDepth 20000 in
theorem ggX11_buy_X11_rest : GoodIn wsX11_buy wsX11_rest := goodIn_r _ [34, 5, 6, 59, 60, 61, 62, 63, 64, 65, 66, 67, 68, 69, 70, 71, 72, 73, 74, 75, 76, 77, 78, 79, 80, 81, 82, 83, 84, 85] (by decide +kernel) (by decide +kernel)
set_option maxRecDepth 20000 in
theorem gX11_buy_X11_rest : GoodIn wsX11_buy (wsV RX11 190 RX11 yX11_rest wsX11_rest) := goodIn_app (goodIn_of _ (by decide +kernel)) ggX11_buy_X11_rest
set_option maxRecDepth 20000 in
theorem ggX11_buy_X11_oddsOf : GoodIn wsX11_buy wsX11_oddsOf := goodIn_r _ [38, 5, 39, 40, 41, 11, 42, 43, 44, 45, 46, 47, 48, 49, 50, 51, 52, 16, 17, 18, 19, 53, 54, 55, 56, 57, 58, 20, 21, 22, 59, 60, 61, 62, 63, 64, 65, 66, 67, 68, 69, 70, 71, 72, 73, 74, 75, 76, 77, 78, 79, 80, 81, 82, 83, 84, 85] (by decide +kernel) (by decide +kernel)
set_option maxRecDepth 20000 in
theorem gX11_buy_X11_oddsOf : GoodIn wsX11_buy (wsV RX11 193 RX11 yX11_oddsOf wsX11_oddsOf) := goodIn_app (goodIn_of _ (by decide +kernel)) ggX11_buy_X11_oddsOf
theorem dX11_buy_0 : decode cX11_buy 0 = .ok (.aload_n 0, 1) := by decide +kernel
theorem dX11_buy_1 : decode cX11_buy 1 = .ok (.iload_n 1, 1) := by decide +kernel
theorem dX11_buy_2 : decode cX11_buy 2 = .ok (.invokevirtual 135, 3) := by decide +kernel
theorem dX11_buy_5 : decode cX11_buy 5 = .ok (.ifCond .ne 6, 3) := by decide +kernel
theorem dX11_buy_8 : decode cX11_buy 8 = .ok (.ldc 139, 2) := by decide +kernel
theorem dX11_buy_10 : decode cX11_buy 10 = .ok (.ireturn, 1) := by decide +kernel
theorem dX11_buy_11 : decode cX11_buy 11 = .ok (.iload_n 2, 1) := by decide +kernel
theorem dX11_buy_12 : decode cX11_buy 12 = .ok (.i2l, 1) := by decide +kernel
theorem dX11_buy_13 : decode cX11_buy 13 = .ok (.lconst 0, 1) := by decide +kernel
theorem dX11_buy_14 : decode cX11_buy 14 = .ok (.ldc2_w 149, 3) := by decide +kernel
theorem dX11_buy_17 : decode cX11_buy 17 = .ok (.invokestatic 67, 3) := by decide +kernel
theorem dX11_buy_20 : decode cX11_buy 20 = .ok (.ifCond .eq 26, 3) := by decide +kernel
theorem dX11_buy_23 : decode cX11_buy 23 = .ok (.iload_n 3, 1) := by decide +kernel
theorem dX11_buy_24 : decode cX11_buy 24 = .ok (.i2l, 1) := by decide +kernel
theorem dX11_buy_25 : decode cX11_buy 25 = .ok (.lconst 0, 1) := by decide +kernel
theorem dX11_buy_26 : decode cX11_buy 26 = .ok (.ldc2_w 198, 3) := by decide +kernel
theorem dX11_buy_29 : decode cX11_buy 29 = .ok (.invokestatic 67, 3) := by decide +kernel
theorem dX11_buy_32 : decode cX11_buy 32 = .ok (.ifCond .eq 14, 3) := by decide +kernel
theorem dX11_buy_35 : decode cX11_buy 35 = .ok (.iload 4, 2) := by decide +kernel
theorem dX11_buy_37 : decode cX11_buy 37 = .ok (.i2l, 1) := by decide +kernel
theorem dX11_buy_38 : decode cX11_buy 38 = .ok (.lconst 0, 1) := by decide +kernel
theorem dX11_buy_39 : decode cX11_buy 39 = .ok (.lconst 1, 1) := by decide +kernel
theorem dX11_buy_40 : decode cX11_buy 40 = .ok (.invokestatic 67, 3) := by decide +kernel
theorem dX11_buy_43 : decode cX11_buy 43 = .ok (.ifCond .ne 6, 3) := by decide +kernel
theorem dX11_buy_46 : decode cX11_buy 46 = .ok (.ldc 71, 2) := by decide +kernel
theorem dX11_buy_48 : decode cX11_buy 48 = .ok (.ireturn, 1) := by decide +kernel
theorem dX11_buy_49 : decode cX11_buy 49 = .ok (.aload_n 0, 1) := by decide +kernel
theorem dX11_buy_50 : decode cX11_buy 50 = .ok (.getfield 13, 3) := by decide +kernel
theorem dX11_buy_53 : decode cX11_buy 53 = .ok (.iconst 5, 1) := by decide +kernel
theorem dX11_buy_54 : decode cX11_buy 54 = .ok (.iload_n 2, 1) := by decide +kernel
theorem dX11_buy_55 : decode cX11_buy 55 = .ok (.iadd, 1) := by decide +kernel
theorem dX11_buy_56 : decode cX11_buy 56 = .ok (.iaload, 1) := by decide +kernel
theorem dX11_buy_57 : decode cX11_buy 57 = .ok (.aload_n 0, 1) := by decide +kernel
theorem dX11_buy_58 : decode cX11_buy 58 = .ok (.getfield 19, 3) := by decide +kernel
theorem dX11_buy_61 : decode cX11_buy 61 = .ok (.iconst 3, 1) := by decide +kernel
theorem dX11_buy_62 : decode cX11_buy 62 = .ok (.iconst 2, 1) := by decide +kernel
theorem dX11_buy_63 : decode cX11_buy 63 = .ok (.iload_n 1, 1) := by decide +kernel
theorem dX11_buy_64 : decode cX11_buy 64 = .ok (.imul, 1) := by decide +kernel
theorem dX11_buy_65 : decode cX11_buy 65 = .ok (.iadd, 1) := by decide +kernel
theorem dX11_buy_66 : decode cX11_buy 66 = .ok (.iaload, 1) := by decide +kernel
theorem dX11_buy_67 : decode cX11_buy 67 = .ok (.isub, 1) := by decide +kernel
theorem dX11_buy_68 : decode cX11_buy 68 = .ok (.istore 5, 2) := by decide +kernel
theorem dX11_buy_70 : decode cX11_buy 70 = .ok (.iconst (-1), 1) := by decide +kernel
theorem dX11_buy_71 : decode cX11_buy 71 = .ok (.istore 6, 2) := by decide +kernel
theorem dX11_buy_73 : decode cX11_buy 73 = .ok (.iconst 0, 1) := by decide +kernel
theorem dX11_buy_74 : decode cX11_buy 74 = .ok (.istore 7, 2) := by decide +kernel
theorem dX11_buy_76 : decode cX11_buy 76 = .ok (.iconst 0, 1) := by decide +kernel
theorem dX11_buy_77 : decode cX11_buy 77 = .ok (.istore 8, 2) := by decide +kernel
theorem dX11_buy_79 : decode cX11_buy 79 = .ok (.iload 8, 2) := by decide +kernel
theorem dX11_buy_81 : decode cX11_buy 81 = .ok (.aload_n 0, 1) := by decide +kernel
theorem dX11_buy_82 : decode cX11_buy 82 = .ok (.invokevirtual 107, 3) := by decide +kernel
theorem dX11_buy_85 : decode cX11_buy 85 = .ok (.if_icmp .gt 245, 3) := by decide +kernel
theorem dX11_buy_88 : decode cX11_buy 88 = .ok (.iconst 0, 1) := by decide +kernel
theorem dX11_buy_89 : decode cX11_buy 89 = .ok (.istore 9, 2) := by decide +kernel
theorem dX11_buy_91 : decode cX11_buy 91 = .ok (.iconst 1, 1) := by decide +kernel
theorem dX11_buy_92 : decode cX11_buy 92 = .ok (.istore 10, 2) := by decide +kernel
theorem dX11_buy_94 : decode cX11_buy 94 = .ok (.iconst 0, 1) := by decide +kernel
theorem dX11_buy_95 : decode cX11_buy 95 = .ok (.istore 11, 2) := by decide +kernel
theorem dX11_buy_97 : decode cX11_buy 97 = .ok (.iload 11, 2) := by decide +kernel
theorem dX11_buy_99 : decode cX11_buy 99 = .ok (.aload_n 0, 1) := by decide +kernel
theorem dX11_buy_100 : decode cX11_buy 100 = .ok (.getfield 13, 3) := by decide +kernel
theorem dX11_buy_103 : decode cX11_buy 103 = .ok (.iconst 1, 1) := by decide +kernel
theorem dX11_buy_104 : decode cX11_buy 104 = .ok (.iaload, 1) := by decide +kernel
theorem dX11_buy_105 : decode cX11_buy 105 = .ok (.if_icmp .ge 85, 3) := by decide +kernel
theorem dX11_buy_108 : decode cX11_buy 108 = .ok (.iload 8, 2) := by decide +kernel
theorem dX11_buy_110 : decode cX11_buy 110 = .ok (.iload 11, 2) := by decide +kernel
theorem dX11_buy_112 : decode cX11_buy 112 = .ok (.ishr, 1) := by decide +kernel
theorem dX11_buy_113 : decode cX11_buy 113 = .ok (.iconst 1, 1) := by decide +kernel
theorem dX11_buy_114 : decode cX11_buy 114 = .ok (.iand, 1) := by decide +kernel
theorem dX11_buy_115 : decode cX11_buy 115 = .ok (.iconst 1, 1) := by decide +kernel
theorem dX11_buy_116 : decode cX11_buy 116 = .ok (.if_icmp .ne 68, 3) := by decide +kernel
theorem dX11_buy_119 : decode cX11_buy 119 = .ok (.iload 9, 2) := by decide +kernel
theorem dX11_buy_121 : decode cX11_buy 121 = .ok (.aload_n 0, 1) := by decide +kernel
theorem dX11_buy_122 : decode cX11_buy 122 = .ok (.getfield 19, 3) := by decide +kernel
theorem dX11_buy_125 : decode cX11_buy 125 = .ok (.bipush 15, 2) := by decide +kernel
theorem dX11_buy_127 : decode cX11_buy 127 = .ok (.iconst 3, 1) := by decide +kernel
theorem dX11_buy_128 : decode cX11_buy 128 = .ok (.iload 11, 2) := by decide +kernel
theorem dX11_buy_130 : decode cX11_buy 130 = .ok (.imul, 1) := by decide +kernel
theorem dX11_buy_131 : decode cX11_buy 131 = .ok (.iadd, 1) := by decide +kernel
theorem dX11_buy_132 : decode cX11_buy 132 = .ok (.iconst 2, 1) := by decide +kernel
theorem dX11_buy_133 : decode cX11_buy 133 = .ok (.iadd, 1) := by decide +kernel
theorem dX11_buy_134 : decode cX11_buy 134 = .ok (.iaload, 1) := by decide +kernel
theorem dX11_buy_135 : decode cX11_buy 135 = .ok (.iadd, 1) := by decide +kernel
theorem dX11_buy_136 : decode cX11_buy 136 = .ok (.istore 9, 2) := by decide +kernel
theorem dX11_buy_138 : decode cX11_buy 138 = .ok (.iload 10, 2) := by decide +kernel
theorem dX11_buy_140 : decode cX11_buy 140 = .ok (.ifCond .eq 41, 3) := by decide +kernel
theorem dX11_buy_143 : decode cX11_buy 143 = .ok (.aload_n 0, 1) := by decide +kernel
theorem dX11_buy_144 : decode cX11_buy 144 = .ok (.getfield 19, 3) := by decide +kernel
theorem dX11_buy_147 : decode cX11_buy 147 = .ok (.bipush 15, 2) := by decide +kernel
theorem dX11_buy_149 : decode cX11_buy 149 = .ok (.iconst 3, 1) := by decide +kernel
theorem dX11_buy_150 : decode cX11_buy 150 = .ok (.iload 11, 2) := by decide +kernel
theorem dX11_buy_152 : decode cX11_buy 152 = .ok (.imul, 1) := by decide +kernel
theorem dX11_buy_153 : decode cX11_buy 153 = .ok (.iadd, 1) := by decide +kernel
theorem dX11_buy_154 : decode cX11_buy 154 = .ok (.iaload, 1) := by decide +kernel
theorem dX11_buy_155 : decode cX11_buy 155 = .ok (.iload_n 1, 1) := by decide +kernel
theorem dX11_buy_156 : decode cX11_buy 156 = .ok (.if_icmp .eq 25, 3) := by decide +kernel
theorem dX11_buy_159 : decode cX11_buy 159 = .ok (.aload_n 0, 1) := by decide +kernel
theorem dX11_buy_160 : decode cX11_buy 160 = .ok (.getfield 19, 3) := by decide +kernel
theorem dX11_buy_163 : decode cX11_buy 163 = .ok (.bipush 15, 2) := by decide +kernel
theorem dX11_buy_165 : decode cX11_buy 165 = .ok (.iconst 3, 1) := by decide +kernel
theorem dX11_buy_166 : decode cX11_buy 166 = .ok (.iload 11, 2) := by decide +kernel
theorem dX11_buy_168 : decode cX11_buy 168 = .ok (.imul, 1) := by decide +kernel
theorem dX11_buy_169 : decode cX11_buy 169 = .ok (.iadd, 1) := by decide +kernel
theorem dX11_buy_170 : decode cX11_buy 170 = .ok (.iconst 1, 1) := by decide +kernel
theorem dX11_buy_171 : decode cX11_buy 171 = .ok (.iadd, 1) := by decide +kernel
theorem dX11_buy_172 : decode cX11_buy 172 = .ok (.iaload, 1) := by decide +kernel
theorem dX11_buy_173 : decode cX11_buy 173 = .ok (.iconst (-1), 1) := by decide +kernel
theorem dX11_buy_174 : decode cX11_buy 174 = .ok (.if_icmp .ne 7, 3) := by decide +kernel
theorem dX11_buy_177 : decode cX11_buy 177 = .ok (.iconst 1, 1) := by decide +kernel
theorem dX11_buy_178 : decode cX11_buy 178 = .ok (.goto 4, 3) := by decide +kernel
theorem dX11_buy_181 : decode cX11_buy 181 = .ok (.iconst 0, 1) := by decide +kernel
theorem dX11_buy_182 : decode cX11_buy 182 = .ok (.istore 10, 2) := by decide +kernel
theorem dX11_buy_184 : decode cX11_buy 184 = .ok (.iinc 11 1, 3) := by decide +kernel
theorem dX11_buy_187 : decode cX11_buy 187 = .ok (.goto (-90), 3) := by decide +kernel
theorem dX11_buy_190 : decode cX11_buy 190 = .ok (.iload 10, 2) := by decide +kernel
theorem dX11_buy_192 : decode cX11_buy 192 = .ok (.ifCond .eq 24, 3) := by decide +kernel
theorem dX11_buy_195 : decode cX11_buy 195 = .ok (.iload 9, 2) := by decide +kernel
theorem dX11_buy_197 : decode cX11_buy 197 = .ok (.aload_n 0, 1) := by decide +kernel
theorem dX11_buy_198 : decode cX11_buy 198 = .ok (.getfield 19, 3) := by decide +kernel
theorem dX11_buy_201 : decode cX11_buy 201 = .ok (.iconst 3, 1) := by decide +kernel
theorem dX11_buy_202 : decode cX11_buy 202 = .ok (.iconst 2, 1) := by decide +kernel
theorem dX11_buy_203 : decode cX11_buy 203 = .ok (.iload_n 1, 1) := by decide +kernel
theorem dX11_buy_204 : decode cX11_buy 204 = .ok (.imul, 1) := by decide +kernel
theorem dX11_buy_205 : decode cX11_buy 205 = .ok (.iadd, 1) := by decide +kernel
theorem dX11_buy_206 : decode cX11_buy 206 = .ok (.iconst 1, 1) := by decide +kernel
theorem dX11_buy_207 : decode cX11_buy 207 = .ok (.iadd, 1) := by decide +kernel
theorem dX11_buy_208 : decode cX11_buy 208 = .ok (.iaload, 1) := by decide +kernel
theorem dX11_buy_209 : decode cX11_buy 209 = .ok (.if_icmp .gt 7, 3) := by decide +kernel
theorem dX11_buy_212 : decode cX11_buy 212 = .ok (.iconst 1, 1) := by decide +kernel
theorem dX11_buy_213 : decode cX11_buy 213 = .ok (.goto 4, 3) := by decide +kernel
theorem dX11_buy_216 : decode cX11_buy 216 = .ok (.iconst 0, 1) := by decide +kernel
theorem dX11_buy_217 : decode cX11_buy 217 = .ok (.istore 10, 2) := by decide +kernel
theorem dX11_buy_219 : decode cX11_buy 219 = .ok (.iload 6, 2) := by decide +kernel
theorem dX11_buy_221 : decode cX11_buy 221 = .ok (.iconst (-1), 1) := by decide +kernel
theorem dX11_buy_222 : decode cX11_buy 222 = .ok (.if_icmp .eq 30, 3) := by decide +kernel
theorem dX11_buy_225 : decode cX11_buy 225 = .ok (.iload 9, 2) := by decide +kernel
theorem dX11_buy_227 : decode cX11_buy 227 = .ok (.iload 7, 2) := by decide +kernel
theorem dX11_buy_229 : decode cX11_buy 229 = .ok (.if_icmp .lt 23, 3) := by decide +kernel
theorem dX11_buy_232 : decode cX11_buy 232 = .ok (.iload 9, 2) := by decide +kernel
theorem dX11_buy_234 : decode cX11_buy 234 = .ok (.iload 7, 2) := by decide +kernel
theorem dX11_buy_236 : decode cX11_buy 236 = .ok (.if_icmp .ne 20, 3) := by decide +kernel
theorem dX11_buy_239 : decode cX11_buy 239 = .ok (.iload 8, 2) := by decide +kernel
theorem dX11_buy_241 : decode cX11_buy 241 = .ok (.invokestatic 185, 3) := by decide +kernel
theorem dX11_buy_244 : decode cX11_buy 244 = .ok (.iload 6, 2) := by decide +kernel
theorem dX11_buy_246 : decode cX11_buy 246 = .ok (.invokestatic 185, 3) := by decide +kernel
theorem dX11_buy_249 : decode cX11_buy 249 = .ok (.if_icmp .ge 7, 3) := by decide +kernel
theorem dX11_buy_252 : decode cX11_buy 252 = .ok (.iconst 1, 1) := by decide +kernel
theorem dX11_buy_253 : decode cX11_buy 253 = .ok (.goto 4, 3) := by decide +kernel
theorem dX11_buy_256 : decode cX11_buy 256 = .ok (.iconst 0, 1) := by decide +kernel
theorem dX11_buy_257 : decode cX11_buy 257 = .ok (.istore 11, 2) := by decide +kernel
theorem dX11_buy_259 : decode cX11_buy 259 = .ok (.iload 10, 2) := by decide +kernel
theorem dX11_buy_261 : decode cX11_buy 261 = .ok (.ifCond .eq 63, 3) := by decide +kernel
theorem dX11_buy_264 : decode cX11_buy 264 = .ok (.iload 11, 2) := by decide +kernel
theorem dX11_buy_266 : decode cX11_buy 266 = .ok (.ifCond .eq 58, 3) := by decide +kernel
theorem dX11_buy_269 : decode cX11_buy 269 = .ok (.iload 5, 2) := by decide +kernel
theorem dX11_buy_271 : decode cX11_buy 271 = .ok (.ifCond .le 45, 3) := by decide +kernel
theorem dX11_buy_274 : decode cX11_buy 274 = .ok (.iload 5, 2) := by decide +kernel
theorem dX11_buy_276 : decode cX11_buy 276 = .ok (.bipush 8, 2) := by decide +kernel
theorem dX11_buy_278 : decode cX11_buy 278 = .ok (.if_icmp .le 7, 3) := by decide +kernel
theorem dX11_buy_281 : decode cX11_buy 281 = .ok (.iconst 0, 1) := by decide +kernel
theorem dX11_buy_282 : decode cX11_buy 282 = .ok (.goto 27, 3) := by decide +kernel
theorem dX11_buy_285 : decode cX11_buy 285 = .ok (.aload_n 0, 1) := by decide +kernel
theorem dX11_buy_286 : decode cX11_buy 286 = .ok (.aload_n 0, 1) := by decide +kernel
theorem dX11_buy_287 : decode cX11_buy 287 = .ok (.iload_n 1, 1) := by decide +kernel
theorem dX11_buy_288 : decode cX11_buy 288 = .ok (.invokevirtual 143, 3) := by decide +kernel
theorem dX11_buy_291 : decode cX11_buy 291 = .ok (.iload 8, 2) := by decide +kernel
theorem dX11_buy_293 : decode cX11_buy 293 = .ok (.ior, 1) := by decide +kernel
theorem dX11_buy_294 : decode cX11_buy 294 = .ok (.iload 5, 2) := by decide +kernel
theorem dX11_buy_296 : decode cX11_buy 296 = .ok (.aload_n 0, 1) := by decide +kernel
theorem dX11_buy_297 : decode cX11_buy 297 = .ok (.invokevirtual 190, 3) := by decide +kernel
theorem dX11_buy_300 : decode cX11_buy 300 = .ok (.aload_n 0, 1) := by decide +kernel
theorem dX11_buy_301 : decode cX11_buy 301 = .ok (.getfield 19, 3) := by decide +kernel
theorem dX11_buy_304 : decode cX11_buy 304 = .ok (.iconst 2, 1) := by decide +kernel
theorem dX11_buy_305 : decode cX11_buy 305 = .ok (.iaload, 1) := by decide +kernel
theorem dX11_buy_306 : decode cX11_buy 306 = .ok (.invokevirtual 193, 3) := by decide +kernel
theorem dX11_buy_309 : decode cX11_buy 309 = .ok (.ldc 200, 2) := by decide +kernel
theorem dX11_buy_311 : decode cX11_buy 311 = .ok (.iload_n 3, 1) := by decide +kernel
theorem dX11_buy_312 : decode cX11_buy 312 = .ok (.imul, 1) := by decide +kernel
theorem dX11_buy_313 : decode cX11_buy 313 = .ok (.if_icmp .lt 11, 3) := by decide +kernel
theorem dX11_buy_316 : decode cX11_buy 316 = .ok (.iload 8, 2) := by decide +kernel
theorem dX11_buy_318 : decode cX11_buy 318 = .ok (.istore 6, 2) := by decide +kernel
theorem dX11_buy_320 : decode cX11_buy 320 = .ok (.iload 9, 2) := by decide +kernel
theorem dX11_buy_322 : decode cX11_buy 322 = .ok (.istore 7, 2) := by decide +kernel
theorem dX11_buy_324 : decode cX11_buy 324 = .ok (.iinc 8 1, 3) := by decide +kernel
theorem dX11_buy_327 : decode cX11_buy 327 = .ok (.goto (-248), 3) := by decide +kernel
theorem dX11_buy_330 : decode cX11_buy 330 = .ok (.iload 6, 2) := by decide +kernel
theorem dX11_buy_332 : decode cX11_buy 332 = .ok (.iconst (-1), 1) := by decide +kernel
theorem dX11_buy_333 : decode cX11_buy 333 = .ok (.if_icmp .ne 7, 3) := by decide +kernel
theorem dX11_buy_336 : decode cX11_buy 336 = .ok (.iconst (-1), 1) := by decide +kernel
theorem dX11_buy_337 : decode cX11_buy 337 = .ok (.goto 15, 3) := by decide +kernel
theorem dX11_buy_340 : decode cX11_buy 340 = .ok (.iload 4, 2) := by decide +kernel
theorem dX11_buy_342 : decode cX11_buy 342 = .ok (.ifCond .ne 8, 3) := by decide +kernel
theorem dX11_buy_345 : decode cX11_buy 345 = .ok (.iload 7, 2) := by decide +kernel
theorem dX11_buy_347 : decode cX11_buy 347 = .ok (.goto 5, 3) := by decide +kernel
theorem dX11_buy_350 : decode cX11_buy 350 = .ok (.iload 6, 2) := by decide +kernel
theorem dX11_buy_352 : decode cX11_buy 352 = .ok (.ireturn, 1) := by decide +kernel
theorem dX11_asides_0 : decode cX11_asides 0 = .ok (.iconst 0, 1) := by decide +kernel
theorem dX11_asides_1 : decode cX11_asides 1 = .ok (.istore_n 1, 1) := by decide +kernel
theorem dX11_asides_2 : decode cX11_asides 2 = .ok (.iload_n 1, 1) := by decide +kernel
theorem dX11_asides_3 : decode cX11_asides 3 = .ok (.bipush 39, 2) := by decide +kernel
theorem dX11_asides_5 : decode cX11_asides 5 = .ok (.if_icmp .ge 21, 3) := by decide +kernel
theorem dX11_asides_8 : decode cX11_asides 8 = .ok (.aload_n 0, 1) := by decide +kernel
theorem dX11_asides_9 : decode cX11_asides 9 = .ok (.getfield 34, 3) := by decide +kernel
theorem dX11_asides_12 : decode cX11_asides 12 = .ok (.iload_n 1, 1) := by decide +kernel
theorem dX11_asides_13 : decode cX11_asides 13 = .ok (.aload_n 0, 1) := by decide +kernel
theorem dX11_asides_14 : decode cX11_asides 14 = .ok (.getfield 19, 3) := by decide +kernel
theorem dX11_asides_17 : decode cX11_asides 17 = .ok (.iload_n 1, 1) := by decide +kernel
theorem dX11_asides_18 : decode cX11_asides 18 = .ok (.iaload, 1) := by decide +kernel
theorem dX11_asides_19 : decode cX11_asides 19 = .ok (.iastore, 1) := by decide +kernel
theorem dX11_asides_20 : decode cX11_asides 20 = .ok (.iinc 1 1, 3) := by decide +kernel
theorem dX11_asides_23 : decode cX11_asides 23 = .ok (.goto (-21), 3) := by decide +kernel
theorem dX11_asides_26 : decode cX11_asides 26 = .ok (.return_, 1) := by decide +kernel
theorem dX11_backs_0 : decode cX11_backs 0 = .ok (.iconst 0, 1) := by decide +kernel
theorem dX11_backs_1 : decode cX11_backs 1 = .ok (.istore_n 1, 1) := by decide +kernel
theorem dX11_backs_2 : decode cX11_backs 2 = .ok (.iload_n 1, 1) := by decide +kernel
theorem dX11_backs_3 : decode cX11_backs 3 = .ok (.bipush 39, 2) := by decide +kernel
theorem dX11_backs_5 : decode cX11_backs 5 = .ok (.if_icmp .ge 21, 3) := by decide +kernel
theorem dX11_backs_8 : decode cX11_backs 8 = .ok (.aload_n 0, 1) := by decide +kernel
theorem dX11_backs_9 : decode cX11_backs 9 = .ok (.getfield 19, 3) := by decide +kernel
theorem dX11_backs_12 : decode cX11_backs 12 = .ok (.iload_n 1, 1) := by decide +kernel
theorem dX11_backs_13 : decode cX11_backs 13 = .ok (.aload_n 0, 1) := by decide +kernel
theorem dX11_backs_14 : decode cX11_backs 14 = .ok (.getfield 34, 3) := by decide +kernel
theorem dX11_backs_17 : decode cX11_backs 17 = .ok (.iload_n 1, 1) := by decide +kernel
theorem dX11_backs_18 : decode cX11_backs 18 = .ok (.iaload, 1) := by decide +kernel
theorem dX11_backs_19 : decode cX11_backs 19 = .ok (.iastore, 1) := by decide +kernel
theorem dX11_backs_20 : decode cX11_backs 20 = .ok (.iinc 1 1, 3) := by decide +kernel
theorem dX11_backs_23 : decode cX11_backs 23 = .ok (.goto (-21), 3) := by decide +kernel
theorem dX11_backs_26 : decode cX11_backs 26 = .ok (.return_, 1) := by decide +kernel
set_option maxRecDepth 20000 in
theorem ggX11_runs_X11_all : GoodIn wsX11_runs wsX11_all := goodIn_r _ [7, 8, 42, 43, 44, 45, 46, 47, 48, 49, 50, 51, 52, 53, 54, 55, 56, 57, 58, 59, 60, 61, 62, 63, 64, 65, 66, 67, 68] (by decide +kernel) (by decide +kernel)
set_option maxRecDepth 20000 in
theorem gX11_runs_X11_all : GoodIn wsX11_runs (wsV RX11 107 RX11 yX11_all wsX11_all) := goodIn_app (goodIn_of _ (by decide +kernel)) ggX11_runs_X11_all
set_option maxRecDepth 20000 in
theorem ggX11_runs_X11_lot : GoodIn wsX11_runs wsX11_lot := goodIn_r _ [12, 1, 13, 14, 15, 16, 2, 17, 18, 19, 6, 20, 8, 21, 22, 23, 24, 42, 43, 44, 45, 46, 47, 48, 49, 50, 51, 52, 53, 54, 55, 56, 57, 58, 59, 60, 61, 62, 63, 64, 65, 66, 67, 68] (by decide +kernel) (by decide +kernel)
set_option maxRecDepth 20000 in
theorem gX11_runs_X11_lot : GoodIn wsX11_runs (wsV RX11 171 RX11 yX11_lot wsX11_lot) := goodIn_app (goodIn_of _ (by decide +kernel)) ggX11_runs_X11_lot
set_option maxRecDepth 20000 in
theorem ggX11_runs_X11_draws : GoodIn wsX11_runs wsX11_draws := goodIn_r _ [28, 2, 8, 29, 30, 31, 6, 32, 3, 4, 5, 7, 42, 43, 44, 45, 46, 47, 48, 49, 50, 51, 52, 53, 54, 55, 56, 57, 58, 59, 60, 61, 62, 63, 64, 65, 66, 67, 68] (by decide +kernel) (by decide +kernel)
set_option maxRecDepth 20000 in
theorem gX11_runs_X11_draws : GoodIn wsX11_runs (wsV RX11 156 RX11 yX11_draws wsX11_draws) := goodIn_app (goodIn_of _ (by decide +kernel)) ggX11_runs_X11_draws
set_option maxRecDepth 20000 in
theorem ggX11_runs_X11_spread : GoodIn wsX11_runs wsX11_spread := goodIn_r _ [36, 8, 2, 42, 43, 44, 45, 46, 47, 48, 49, 50, 51, 52, 53, 54, 55, 56, 57, 58, 59, 60, 61, 62, 63, 64, 65, 66, 67, 68] (by decide +kernel) (by decide +kernel)
set_option maxRecDepth 20000 in
theorem gX11_runs_X11_spread : GoodIn wsX11_runs (wsV RX11 132 RX11 yX11_spread wsX11_spread) := goodIn_app (goodIn_of _ (by decide +kernel)) ggX11_runs_X11_spread
set_option maxRecDepth 20000 in
theorem ggX11_runs_X11_backs : GoodIn wsX11_runs wsX11_backs := goodIn_r _ [40, 2, 41, 42, 43, 44, 45, 46, 47, 48, 49, 50, 51, 52, 53, 54, 55, 56, 57, 58, 59, 60, 61, 62, 63, 64, 65, 66, 67, 68] (by decide +kernel) (by decide +kernel)
set_option maxRecDepth 20000 in
theorem gX11_runs_X11_backs : GoodIn wsX11_runs (wsV RX11 201 RX11 yX11_backs wsX11_backs) := goodIn_app (goodIn_of _ (by decide +kernel)) ggX11_runs_X11_backs
theorem dX11_runs_0 : decode cX11_runs 0 = .ok (.aload_n 0, 1) := by decide +kernel
theorem dX11_runs_1 : decode cX11_runs 1 = .ok (.getfield 159, 3) := by decide +kernel
theorem dX11_runs_4 : decode cX11_runs 4 = .ok (.istore_n 3, 1) := by decide +kernel
theorem dX11_runs_5 : decode cX11_runs 5 = .ok (.aload_n 0, 1) := by decide +kernel
theorem dX11_runs_6 : decode cX11_runs 6 = .ok (.getfield 19, 3) := by decide +kernel
theorem dX11_runs_9 : decode cX11_runs 9 = .ok (.iconst 1, 1) := by decide +kernel
theorem dX11_runs_10 : decode cX11_runs 10 = .ok (.iconst 0, 1) := by decide +kernel
theorem dX11_runs_11 : decode cX11_runs 11 = .ok (.iastore, 1) := by decide +kernel
theorem dX11_runs_12 : decode cX11_runs 12 = .ok (.aload_n 0, 1) := by decide +kernel
theorem dX11_runs_13 : decode cX11_runs 13 = .ok (.getfield 19, 3) := by decide +kernel
theorem dX11_runs_16 : decode cX11_runs 16 = .ok (.iconst 2, 1) := by decide +kernel
theorem dX11_runs_17 : decode cX11_runs 17 = .ok (.aload_n 0, 1) := by decide +kernel
theorem dX11_runs_18 : decode cX11_runs 18 = .ok (.invokevirtual 107, 3) := by decide +kernel
theorem dX11_runs_21 : decode cX11_runs 21 = .ok (.iastore, 1) := by decide +kernel
theorem dX11_runs_22 : decode cX11_runs 22 = .ok (.aload_n 0, 1) := by decide +kernel
theorem dX11_runs_23 : decode cX11_runs 23 = .ok (.getfield 19, 3) := by decide +kernel
theorem dX11_runs_26 : decode cX11_runs 26 = .ok (.iconst 0, 1) := by decide +kernel
theorem dX11_runs_27 : decode cX11_runs 27 = .ok (.iaload, 1) := by decide +kernel
theorem dX11_runs_28 : decode cX11_runs 28 = .ok (.iload_n 1, 1) := by decide +kernel
theorem dX11_runs_29 : decode cX11_runs 29 = .ok (.iadd, 1) := by decide +kernel
theorem dX11_runs_30 : decode cX11_runs 30 = .ok (.istore 4, 2) := by decide +kernel
theorem dX11_runs_32 : decode cX11_runs 32 = .ok (.aload_n 0, 1) := by decide +kernel
theorem dX11_runs_33 : decode cX11_runs 33 = .ok (.getfield 19, 3) := by decide +kernel
theorem dX11_runs_36 : decode cX11_runs 36 = .ok (.iconst 0, 1) := by decide +kernel
theorem dX11_runs_37 : decode cX11_runs 37 = .ok (.iaload, 1) := by decide +kernel
theorem dX11_runs_38 : decode cX11_runs 38 = .ok (.iload 4, 2) := by decide +kernel
theorem dX11_runs_40 : decode cX11_runs 40 = .ok (.if_icmp .ge 15, 3) := by decide +kernel
theorem dX11_runs_43 : decode cX11_runs 43 = .ok (.aload_n 0, 1) := by decide +kernel
theorem dX11_runs_44 : decode cX11_runs 44 = .ok (.aload_n 0, 1) := by decide +kernel
theorem dX11_runs_45 : decode cX11_runs 45 = .ok (.invokevirtual 171, 3) := by decide +kernel
theorem dX11_runs_48 : decode cX11_runs 48 = .ok (.iload_n 2, 1) := by decide +kernel
theorem dX11_runs_49 : decode cX11_runs 49 = .ok (.invokevirtual 156, 3) := by decide +kernel
theorem dX11_runs_52 : decode cX11_runs 52 = .ok (.goto (-20), 3) := by decide +kernel
theorem dX11_runs_55 : decode cX11_runs 55 = .ok (.aload_n 0, 1) := by decide +kernel
theorem dX11_runs_56 : decode cX11_runs 56 = .ok (.invokevirtual 132, 3) := by decide +kernel
theorem dX11_runs_59 : decode cX11_runs 59 = .ok (.istore 5, 2) := by decide +kernel
theorem dX11_runs_61 : decode cX11_runs 61 = .ok (.aload_n 0, 1) := by decide +kernel
theorem dX11_runs_62 : decode cX11_runs 62 = .ok (.invokevirtual 201, 3) := by decide +kernel
theorem dX11_runs_65 : decode cX11_runs 65 = .ok (.aload_n 0, 1) := by decide +kernel
theorem dX11_runs_66 : decode cX11_runs 66 = .ok (.iload_n 3, 1) := by decide +kernel
theorem dX11_runs_67 : decode cX11_runs 67 = .ok (.putfield 159, 3) := by decide +kernel
theorem dX11_runs_70 : decode cX11_runs 70 = .ok (.iload 5, 2) := by decide +kernel
theorem dX11_runs_72 : decode cX11_runs 72 = .ok (.ireturn, 1) := by decide +kernel
set_option maxRecDepth 20000 in
theorem ggX11_evens_X11_in : GoodIn wsX11_evens wsX11_in := goodIn_r _ [8] (by decide +kernel) (by decide +kernel)
set_option maxRecDepth 20000 in
theorem gX11_evens_X11_in : GoodIn wsX11_evens (va_wsS RX11 67 yX11_in wsX11_in) := goodIn_app (goodIn_of _ (by decide +kernel)) ggX11_evens_X11_in
set_option maxRecDepth 20000 in
theorem ggX11_evens_X11_asides : GoodIn wsX11_evens wsX11_asides := goodIn_r _ [12, 13, 14, 56, 57, 58, 59, 60, 61, 62, 63, 64, 65, 66, 67, 68, 69, 70, 71, 72, 73, 74, 75, 76, 77, 78, 79, 80, 81, 82] (by decide +kernel) (by decide +kernel)
set_option maxRecDepth 20000 in
theorem gX11_evens_X11_asides : GoodIn wsX11_evens (wsV RX11 206 RX11 yX11_asides wsX11_asides) := goodIn_app (goodIn_of _ (by decide +kernel)) ggX11_evens_X11_asides
set_option maxRecDepth 20000 in
theorem ggX11_evens_X11_runs : GoodIn wsX11_evens wsX11_runs := goodIn_r _ [18, 19, 14, 20, 21, 22, 7, 23, 3, 24, 25, 26, 27, 28, 29, 30, 31, 32, 33, 34, 35, 36, 37, 38, 39, 40, 41, 42, 43, 44, 45, 46, 47, 48, 49, 50, 51, 52, 53, 54, 55, 13, 56, 57, 58, 59, 60, 61, 62, 63, 64, 65, 66, 67, 68, 69, 70, 71, 72, 73, 74, 75, 76, 77, 78, 79, 80, 81, 82] (by decide +kernel) (by decide +kernel)
set_option maxRecDepth 20000 in
theorem gX11_evens_X11_runs : GoodIn wsX11_evens (wsV RX11 209 RX11 yX11_runs wsX11_runs) := goodIn_app (goodIn_of _ (by decide +kernel)) ggX11_evens_X11_runs
theorem dX11_evens_0 : decode cX11_evens 0 = .ok (.iload_n 1, 1) := by decide +kernel
theorem dX11_evens_1 : decode cX11_evens 1 = .ok (.i2l, 1) := by decide +kernel
theorem dX11_evens_2 : decode cX11_evens 2 = .ok (.lconst 1, 1) := by decide +kernel
theorem dX11_evens_3 : decode cX11_evens 3 = .ok (.ldc2_w 204, 3) := by decide +kernel
theorem dX11_evens_6 : decode cX11_evens 6 = .ok (.invokestatic 67, 3) := by decide +kernel
theorem dX11_evens_9 : decode cX11_evens 9 = .ok (.ifCond .eq 13, 3) := by decide +kernel
theorem dX11_evens_12 : decode cX11_evens 12 = .ok (.iload_n 2, 1) := by decide +kernel
theorem dX11_evens_13 : decode cX11_evens 13 = .ok (.i2l, 1) := by decide +kernel
theorem dX11_evens_14 : decode cX11_evens 14 = .ok (.lconst 0, 1) := by decide +kernel
theorem dX11_evens_15 : decode cX11_evens 15 = .ok (.lconst 1, 1) := by decide +kernel
theorem dX11_evens_16 : decode cX11_evens 16 = .ok (.invokestatic 67, 3) := by decide +kernel
theorem dX11_evens_19 : decode cX11_evens 19 = .ok (.ifCond .ne 6, 3) := by decide +kernel
theorem dX11_evens_22 : decode cX11_evens 22 = .ok (.ldc 71, 2) := by decide +kernel
theorem dX11_evens_24 : decode cX11_evens 24 = .ok (.ireturn, 1) := by decide +kernel
theorem dX11_evens_25 : decode cX11_evens 25 = .ok (.aload_n 0, 1) := by decide +kernel
theorem dX11_evens_26 : decode cX11_evens 26 = .ok (.getfield 13, 3) := by decide +kernel
theorem dX11_evens_29 : decode cX11_evens 29 = .ok (.iconst 0, 1) := by decide +kernel
theorem dX11_evens_30 : decode cX11_evens 30 = .ok (.iaload, 1) := by decide +kernel
theorem dX11_evens_31 : decode cX11_evens 31 = .ok (.ifCond .eq 12, 3) := by decide +kernel
theorem dX11_evens_34 : decode cX11_evens 34 = .ok (.aload_n 0, 1) := by decide +kernel
theorem dX11_evens_35 : decode cX11_evens 35 = .ok (.getfield 13, 3) := by decide +kernel
theorem dX11_evens_38 : decode cX11_evens 38 = .ok (.iconst 1, 1) := by decide +kernel
theorem dX11_evens_39 : decode cX11_evens 39 = .ok (.iaload, 1) := by decide +kernel
theorem dX11_evens_40 : decode cX11_evens 40 = .ok (.ifCond .ne 6, 3) := by decide +kernel
theorem dX11_evens_43 : decode cX11_evens 43 = .ok (.ldc 151, 2) := by decide +kernel
theorem dX11_evens_45 : decode cX11_evens 45 = .ok (.ireturn, 1) := by decide +kernel
theorem dX11_evens_46 : decode cX11_evens 46 = .ok (.aload_n 0, 1) := by decide +kernel
theorem dX11_evens_47 : decode cX11_evens 47 = .ok (.invokevirtual 206, 3) := by decide +kernel
theorem dX11_evens_50 : decode cX11_evens 50 = .ok (.aload_n 0, 1) := by decide +kernel
theorem dX11_evens_51 : decode cX11_evens 51 = .ok (.iload_n 1, 1) := by decide +kernel
theorem dX11_evens_52 : decode cX11_evens 52 = .ok (.iconst 1, 1) := by decide +kernel
theorem dX11_evens_53 : decode cX11_evens 53 = .ok (.invokevirtual 209, 3) := by decide +kernel
theorem dX11_evens_56 : decode cX11_evens 56 = .ok (.istore_n 3, 1) := by decide +kernel
theorem dX11_evens_57 : decode cX11_evens 57 = .ok (.aload_n 0, 1) := by decide +kernel
theorem dX11_evens_58 : decode cX11_evens 58 = .ok (.iload_n 1, 1) := by decide +kernel
theorem dX11_evens_59 : decode cX11_evens 59 = .ok (.iconst 0, 1) := by decide +kernel
theorem dX11_evens_60 : decode cX11_evens 60 = .ok (.invokevirtual 209, 3) := by decide +kernel
theorem dX11_evens_63 : decode cX11_evens 63 = .ok (.istore 4, 2) := by decide +kernel
theorem dX11_evens_65 : decode cX11_evens 65 = .ok (.iload_n 2, 1) := by decide +kernel
theorem dX11_evens_66 : decode cX11_evens 66 = .ok (.iconst 1, 1) := by decide +kernel
theorem dX11_evens_67 : decode cX11_evens 67 = .ok (.if_icmp .ne 18, 3) := by decide +kernel
theorem dX11_evens_70 : decode cX11_evens 70 = .ok (.iload_n 3, 1) := by decide +kernel
theorem dX11_evens_71 : decode cX11_evens 71 = .ok (.iload 4, 2) := by decide +kernel
theorem dX11_evens_73 : decode cX11_evens 73 = .ok (.if_icmp .ge 7, 3) := by decide +kernel
theorem dX11_evens_76 : decode cX11_evens 76 = .ok (.iload_n 3, 1) := by decide +kernel
theorem dX11_evens_77 : decode cX11_evens 77 = .ok (.goto 29, 3) := by decide +kernel
theorem dX11_evens_80 : decode cX11_evens 80 = .ok (.iload 4, 2) := by decide +kernel
theorem dX11_evens_82 : decode cX11_evens 82 = .ok (.goto 24, 3) := by decide +kernel
theorem dX11_evens_85 : decode cX11_evens 85 = .ok (.iload_n 3, 1) := by decide +kernel
theorem dX11_evens_86 : decode cX11_evens 86 = .ok (.iload 4, 2) := by decide +kernel
theorem dX11_evens_88 : decode cX11_evens 88 = .ok (.if_icmp .ge 7, 3) := by decide +kernel
theorem dX11_evens_91 : decode cX11_evens 91 = .ok (.iconst 1, 1) := by decide +kernel
theorem dX11_evens_92 : decode cX11_evens 92 = .ok (.goto 14, 3) := by decide +kernel
theorem dX11_evens_95 : decode cX11_evens 95 = .ok (.iload 4, 2) := by decide +kernel
theorem dX11_evens_97 : decode cX11_evens 97 = .ok (.iload_n 3, 1) := by decide +kernel
theorem dX11_evens_98 : decode cX11_evens 98 = .ok (.if_icmp .ge 7, 3) := by decide +kernel
theorem dX11_evens_101 : decode cX11_evens 101 = .ok (.iconst 0, 1) := by decide +kernel
theorem dX11_evens_102 : decode cX11_evens 102 = .ok (.goto 4, 3) := by decide +kernel
theorem dX11_evens_105 : decode cX11_evens 105 = .ok (.iconst 2, 1) := by decide +kernel
theorem dX11_evens_106 : decode cX11_evens 106 = .ok (.ireturn, 1) := by decide +kernel
set_option maxRecDepth 20000 in
theorem ggX11_mostPairs_X11_mayWed : GoodIn wsX11_mostPairs wsX11_mayWed := goodIn_r _ [8, 9, 1, 10, 11, 12, 13, 14, 15, 16, 17, 18, 19, 20, 21, 22, 23, 24, 25, 26, 27, 28, 29, 30, 31, 32, 33, 34, 35, 36] (by decide +kernel) (by decide +kernel)
set_option maxRecDepth 20000 in
theorem gX11_mostPairs_X11_mayWed : GoodIn wsX11_mostPairs (wsV RX11 212 RX11 yX11_mayWed wsX11_mayWed) := goodIn_app (goodIn_of _ (by decide +kernel)) ggX11_mostPairs_X11_mayWed
theorem dX11_mostPairs_0 : decode cX11_mostPairs 0 = .ok (.aload_n 0, 1) := by decide +kernel
theorem dX11_mostPairs_1 : decode cX11_mostPairs 1 = .ok (.getfield 13, 3) := by decide +kernel
theorem dX11_mostPairs_4 : decode cX11_mostPairs 4 = .ok (.iconst 0, 1) := by decide +kernel
theorem dX11_mostPairs_5 : decode cX11_mostPairs 5 = .ok (.iaload, 1) := by decide +kernel
theorem dX11_mostPairs_6 : decode cX11_mostPairs 6 = .ok (.istore_n 2, 1) := by decide +kernel
theorem dX11_mostPairs_7 : decode cX11_mostPairs 7 = .ok (.iconst 1, 1) := by decide +kernel
theorem dX11_mostPairs_8 : decode cX11_mostPairs 8 = .ok (.istore_n 3, 1) := by decide +kernel
theorem dX11_mostPairs_9 : decode cX11_mostPairs 9 = .ok (.iconst 0, 1) := by decide +kernel
theorem dX11_mostPairs_10 : decode cX11_mostPairs 10 = .ok (.istore 4, 2) := by decide +kernel
theorem dX11_mostPairs_12 : decode cX11_mostPairs 12 = .ok (.iload 4, 2) := by decide +kernel
theorem dX11_mostPairs_14 : decode cX11_mostPairs 14 = .ok (.iload_n 2, 1) := by decide +kernel
theorem dX11_mostPairs_15 : decode cX11_mostPairs 15 = .ok (.if_icmp .ge 14, 3) := by decide +kernel
theorem dX11_mostPairs_18 : decode cX11_mostPairs 18 = .ok (.iload_n 3, 1) := by decide +kernel
theorem dX11_mostPairs_19 : decode cX11_mostPairs 19 = .ok (.bipush 7, 2) := by decide +kernel
theorem dX11_mostPairs_21 : decode cX11_mostPairs 21 = .ok (.imul, 1) := by decide +kernel
theorem dX11_mostPairs_22 : decode cX11_mostPairs 22 = .ok (.istore_n 3, 1) := by decide +kernel
theorem dX11_mostPairs_23 : decode cX11_mostPairs 23 = .ok (.iinc 4 1, 3) := by decide +kernel
theorem dX11_mostPairs_26 : decode cX11_mostPairs 26 = .ok (.goto (-14), 3) := by decide +kernel
theorem dX11_mostPairs_29 : decode cX11_mostPairs 29 = .ok (.iconst (-1), 1) := by decide +kernel
theorem dX11_mostPairs_30 : decode cX11_mostPairs 30 = .ok (.istore 4, 2) := by decide +kernel
theorem dX11_mostPairs_32 : decode cX11_mostPairs 32 = .ok (.iconst 0, 1) := by decide +kernel
theorem dX11_mostPairs_33 : decode cX11_mostPairs 33 = .ok (.istore 5, 2) := by decide +kernel
theorem dX11_mostPairs_35 : decode cX11_mostPairs 35 = .ok (.iload 5, 2) := by decide +kernel
theorem dX11_mostPairs_37 : decode cX11_mostPairs 37 = .ok (.iload_n 3, 1) := by decide +kernel
theorem dX11_mostPairs_38 : decode cX11_mostPairs 38 = .ok (.if_icmp .ge 252, 3) := by decide +kernel
theorem dX11_mostPairs_41 : decode cX11_mostPairs 41 = .ok (.iload 5, 2) := by decide +kernel
theorem dX11_mostPairs_43 : decode cX11_mostPairs 43 = .ok (.istore 6, 2) := by decide +kernel
theorem dX11_mostPairs_45 : decode cX11_mostPairs 45 = .ok (.iconst 0, 1) := by decide +kernel
theorem dX11_mostPairs_46 : decode cX11_mostPairs 46 = .ok (.istore 7, 2) := by decide +kernel
theorem dX11_mostPairs_48 : decode cX11_mostPairs 48 = .ok (.iconst 1, 1) := by decide +kernel
theorem dX11_mostPairs_49 : decode cX11_mostPairs 49 = .ok (.istore 8, 2) := by decide +kernel
theorem dX11_mostPairs_51 : decode cX11_mostPairs 51 = .ok (.iload_n 2, 1) := by decide +kernel
theorem dX11_mostPairs_52 : decode cX11_mostPairs 52 = .ok (.iconst 1, 1) := by decide +kernel
theorem dX11_mostPairs_53 : decode cX11_mostPairs 53 = .ok (.isub, 1) := by decide +kernel
theorem dX11_mostPairs_54 : decode cX11_mostPairs 54 = .ok (.istore 9, 2) := by decide +kernel
theorem dX11_mostPairs_56 : decode cX11_mostPairs 56 = .ok (.iload 9, 2) := by decide +kernel
theorem dX11_mostPairs_58 : decode cX11_mostPairs 58 = .ok (.ifCond .lt 126, 3) := by decide +kernel
theorem dX11_mostPairs_61 : decode cX11_mostPairs 61 = .ok (.aload_n 0, 1) := by decide +kernel
theorem dX11_mostPairs_62 : decode cX11_mostPairs 62 = .ok (.getfield 37, 3) := by decide +kernel
theorem dX11_mostPairs_65 : decode cX11_mostPairs 65 = .ok (.iload 9, 2) := by decide +kernel
theorem dX11_mostPairs_67 : decode cX11_mostPairs 67 = .ok (.iload 6, 2) := by decide +kernel
theorem dX11_mostPairs_69 : decode cX11_mostPairs 69 = .ok (.bipush 7, 2) := by decide +kernel
theorem dX11_mostPairs_71 : decode cX11_mostPairs 71 = .ok (.irem, 1) := by decide +kernel
theorem dX11_mostPairs_72 : decode cX11_mostPairs 72 = .ok (.bipush 6, 2) := by decide +kernel
theorem dX11_mostPairs_74 : decode cX11_mostPairs 74 = .ok (.if_icmp .ne 7, 3) := by decide +kernel
theorem dX11_mostPairs_77 : decode cX11_mostPairs 77 = .ok (.iconst (-1), 1) := by decide +kernel
theorem dX11_mostPairs_78 : decode cX11_mostPairs 78 = .ok (.goto 8, 3) := by decide +kernel
theorem dX11_mostPairs_81 : decode cX11_mostPairs 81 = .ok (.iload 6, 2) := by decide +kernel
theorem dX11_mostPairs_83 : decode cX11_mostPairs 83 = .ok (.bipush 7, 2) := by decide +kernel
theorem dX11_mostPairs_85 : decode cX11_mostPairs 85 = .ok (.irem, 1) := by decide +kernel
theorem dX11_mostPairs_86 : decode cX11_mostPairs 86 = .ok (.iastore, 1) := by decide +kernel
theorem dX11_mostPairs_87 : decode cX11_mostPairs 87 = .ok (.iload 6, 2) := by decide +kernel
theorem dX11_mostPairs_89 : decode cX11_mostPairs 89 = .ok (.bipush 7, 2) := by decide +kernel
theorem dX11_mostPairs_91 : decode cX11_mostPairs 91 = .ok (.idiv, 1) := by decide +kernel
theorem dX11_mostPairs_92 : decode cX11_mostPairs 92 = .ok (.istore 6, 2) := by decide +kernel
theorem dX11_mostPairs_94 : decode cX11_mostPairs 94 = .ok (.iload 8, 2) := by decide +kernel
theorem dX11_mostPairs_96 : decode cX11_mostPairs 96 = .ok (.ifCond .eq 58, 3) := by decide +kernel
theorem dX11_mostPairs_99 : decode cX11_mostPairs 99 = .ok (.aload_n 0, 1) := by decide +kernel
theorem dX11_mostPairs_100 : decode cX11_mostPairs 100 = .ok (.getfield 37, 3) := by decide +kernel
theorem dX11_mostPairs_103 : decode cX11_mostPairs 103 = .ok (.iload 9, 2) := by decide +kernel
theorem dX11_mostPairs_105 : decode cX11_mostPairs 105 = .ok (.iaload, 1) := by decide +kernel
theorem dX11_mostPairs_106 : decode cX11_mostPairs 106 = .ok (.iconst (-1), 1) := by decide +kernel
theorem dX11_mostPairs_107 : decode cX11_mostPairs 107 = .ok (.if_icmp .eq 43, 3) := by decide +kernel
theorem dX11_mostPairs_110 : decode cX11_mostPairs 110 = .ok (.aload_n 0, 1) := by decide +kernel
theorem dX11_mostPairs_111 : decode cX11_mostPairs 111 = .ok (.getfield 37, 3) := by decide +kernel
theorem dX11_mostPairs_114 : decode cX11_mostPairs 114 = .ok (.iload 9, 2) := by decide +kernel
theorem dX11_mostPairs_116 : decode cX11_mostPairs 116 = .ok (.iaload, 1) := by decide +kernel
theorem dX11_mostPairs_117 : decode cX11_mostPairs 117 = .ok (.iload_n 2, 1) := by decide +kernel
theorem dX11_mostPairs_118 : decode cX11_mostPairs 118 = .ok (.if_icmp .ge 36, 3) := by decide +kernel
theorem dX11_mostPairs_121 : decode cX11_mostPairs 121 = .ok (.aload_n 0, 1) := by decide +kernel
theorem dX11_mostPairs_122 : decode cX11_mostPairs 122 = .ok (.getfield 37, 3) := by decide +kernel
theorem dX11_mostPairs_125 : decode cX11_mostPairs 125 = .ok (.iload 9, 2) := by decide +kernel
theorem dX11_mostPairs_127 : decode cX11_mostPairs 127 = .ok (.iaload, 1) := by decide +kernel
theorem dX11_mostPairs_128 : decode cX11_mostPairs 128 = .ok (.iload 9, 2) := by decide +kernel
theorem dX11_mostPairs_130 : decode cX11_mostPairs 130 = .ok (.if_icmp .eq 24, 3) := by decide +kernel
theorem dX11_mostPairs_133 : decode cX11_mostPairs 133 = .ok (.aload_n 0, 1) := by decide +kernel
theorem dX11_mostPairs_134 : decode cX11_mostPairs 134 = .ok (.iload 9, 2) := by decide +kernel
theorem dX11_mostPairs_136 : decode cX11_mostPairs 136 = .ok (.aload_n 0, 1) := by decide +kernel
theorem dX11_mostPairs_137 : decode cX11_mostPairs 137 = .ok (.getfield 37, 3) := by decide +kernel
theorem dX11_mostPairs_140 : decode cX11_mostPairs 140 = .ok (.iload 9, 2) := by decide +kernel
theorem dX11_mostPairs_142 : decode cX11_mostPairs 142 = .ok (.iaload, 1) := by decide +kernel
theorem dX11_mostPairs_143 : decode cX11_mostPairs 143 = .ok (.iload_n 1, 1) := by decide +kernel
theorem dX11_mostPairs_144 : decode cX11_mostPairs 144 = .ok (.invokevirtual 212, 3) := by decide +kernel
theorem dX11_mostPairs_147 : decode cX11_mostPairs 147 = .ok (.ifCond .eq 7, 3) := by decide +kernel
theorem dX11_mostPairs_150 : decode cX11_mostPairs 150 = .ok (.iconst 1, 1) := by decide +kernel
theorem dX11_mostPairs_151 : decode cX11_mostPairs 151 = .ok (.goto 4, 3) := by decide +kernel
theorem dX11_mostPairs_154 : decode cX11_mostPairs 154 = .ok (.iconst 0, 1) := by decide +kernel
theorem dX11_mostPairs_155 : decode cX11_mostPairs 155 = .ok (.istore 8, 2) := by decide +kernel
theorem dX11_mostPairs_157 : decode cX11_mostPairs 157 = .ok (.iload 7, 2) := by decide +kernel
theorem dX11_mostPairs_159 : decode cX11_mostPairs 159 = .ok (.aload_n 0, 1) := by decide +kernel
theorem dX11_mostPairs_160 : decode cX11_mostPairs 160 = .ok (.getfield 37, 3) := by decide +kernel
theorem dX11_mostPairs_163 : decode cX11_mostPairs 163 = .ok (.iload 9, 2) := by decide +kernel
theorem dX11_mostPairs_165 : decode cX11_mostPairs 165 = .ok (.iaload, 1) := by decide +kernel
theorem dX11_mostPairs_166 : decode cX11_mostPairs 166 = .ok (.iconst (-1), 1) := by decide +kernel
theorem dX11_mostPairs_167 : decode cX11_mostPairs 167 = .ok (.if_icmp .ne 7, 3) := by decide +kernel
theorem dX11_mostPairs_170 : decode cX11_mostPairs 170 = .ok (.iconst 0, 1) := by decide +kernel
theorem dX11_mostPairs_171 : decode cX11_mostPairs 171 = .ok (.goto 4, 3) := by decide +kernel
theorem dX11_mostPairs_174 : decode cX11_mostPairs 174 = .ok (.iconst 1, 1) := by decide +kernel
theorem dX11_mostPairs_175 : decode cX11_mostPairs 175 = .ok (.iadd, 1) := by decide +kernel
theorem dX11_mostPairs_176 : decode cX11_mostPairs 176 = .ok (.istore 7, 2) := by decide +kernel
theorem dX11_mostPairs_178 : decode cX11_mostPairs 178 = .ok (.iinc 9 (-1), 3) := by decide +kernel
theorem dX11_mostPairs_181 : decode cX11_mostPairs 181 = .ok (.goto (-125), 3) := by decide +kernel
theorem dX11_mostPairs_184 : decode cX11_mostPairs 184 = .ok (.iconst 0, 1) := by decide +kernel
theorem dX11_mostPairs_185 : decode cX11_mostPairs 185 = .ok (.istore 9, 2) := by decide +kernel
theorem dX11_mostPairs_187 : decode cX11_mostPairs 187 = .ok (.iload 9, 2) := by decide +kernel
theorem dX11_mostPairs_189 : decode cX11_mostPairs 189 = .ok (.iload_n 2, 1) := by decide +kernel
theorem dX11_mostPairs_190 : decode cX11_mostPairs 190 = .ok (.if_icmp .ge 49, 3) := by decide +kernel
theorem dX11_mostPairs_193 : decode cX11_mostPairs 193 = .ok (.iload 8, 2) := by decide +kernel
theorem dX11_mostPairs_195 : decode cX11_mostPairs 195 = .ok (.ifCond .eq 44, 3) := by decide +kernel
theorem dX11_mostPairs_198 : decode cX11_mostPairs 198 = .ok (.aload_n 0, 1) := by decide +kernel
theorem dX11_mostPairs_199 : decode cX11_mostPairs 199 = .ok (.getfield 37, 3) := by decide +kernel
theorem dX11_mostPairs_202 : decode cX11_mostPairs 202 = .ok (.iload 9, 2) := by decide +kernel
theorem dX11_mostPairs_204 : decode cX11_mostPairs 204 = .ok (.iaload, 1) := by decide +kernel
theorem dX11_mostPairs_205 : decode cX11_mostPairs 205 = .ok (.iconst (-1), 1) := by decide +kernel
theorem dX11_mostPairs_206 : decode cX11_mostPairs 206 = .ok (.if_icmp .eq 20, 3) := by decide +kernel
theorem dX11_mostPairs_209 : decode cX11_mostPairs 209 = .ok (.aload_n 0, 1) := by decide +kernel
theorem dX11_mostPairs_210 : decode cX11_mostPairs 210 = .ok (.getfield 37, 3) := by decide +kernel
theorem dX11_mostPairs_213 : decode cX11_mostPairs 213 = .ok (.aload_n 0, 1) := by decide +kernel
theorem dX11_mostPairs_214 : decode cX11_mostPairs 214 = .ok (.getfield 37, 3) := by decide +kernel
theorem dX11_mostPairs_217 : decode cX11_mostPairs 217 = .ok (.iload 9, 2) := by decide +kernel
theorem dX11_mostPairs_219 : decode cX11_mostPairs 219 = .ok (.iaload, 1) := by decide +kernel
theorem dX11_mostPairs_220 : decode cX11_mostPairs 220 = .ok (.iaload, 1) := by decide +kernel
theorem dX11_mostPairs_221 : decode cX11_mostPairs 221 = .ok (.iload 9, 2) := by decide +kernel
theorem dX11_mostPairs_223 : decode cX11_mostPairs 223 = .ok (.if_icmp .ne 7, 3) := by decide +kernel
theorem dX11_mostPairs_226 : decode cX11_mostPairs 226 = .ok (.iconst 1, 1) := by decide +kernel
theorem dX11_mostPairs_227 : decode cX11_mostPairs 227 = .ok (.goto 4, 3) := by decide +kernel
theorem dX11_mostPairs_230 : decode cX11_mostPairs 230 = .ok (.iconst 0, 1) := by decide +kernel
theorem dX11_mostPairs_231 : decode cX11_mostPairs 231 = .ok (.istore 8, 2) := by decide +kernel
theorem dX11_mostPairs_233 : decode cX11_mostPairs 233 = .ok (.iinc 9 1, 3) := by decide +kernel
theorem dX11_mostPairs_236 : decode cX11_mostPairs 236 = .ok (.goto (-49), 3) := by decide +kernel
theorem dX11_mostPairs_239 : decode cX11_mostPairs 239 = .ok (.iload 8, 2) := by decide +kernel
theorem dX11_mostPairs_241 : decode cX11_mostPairs 241 = .ok (.ifCond .eq 43, 3) := by decide +kernel
theorem dX11_mostPairs_244 : decode cX11_mostPairs 244 = .ok (.iload 7, 2) := by decide +kernel
theorem dX11_mostPairs_246 : decode cX11_mostPairs 246 = .ok (.iload 4, 2) := by decide +kernel
theorem dX11_mostPairs_248 : decode cX11_mostPairs 248 = .ok (.if_icmp .le 36, 3) := by decide +kernel
theorem dX11_mostPairs_251 : decode cX11_mostPairs 251 = .ok (.iload 7, 2) := by decide +kernel
theorem dX11_mostPairs_253 : decode cX11_mostPairs 253 = .ok (.istore 4, 2) := by decide +kernel
theorem dX11_mostPairs_255 : decode cX11_mostPairs 255 = .ok (.iconst 0, 1) := by decide +kernel
theorem dX11_mostPairs_256 : decode cX11_mostPairs 256 = .ok (.istore 9, 2) := by decide +kernel
theorem dX11_mostPairs_258 : decode cX11_mostPairs 258 = .ok (.iload 9, 2) := by decide +kernel
theorem dX11_mostPairs_260 : decode cX11_mostPairs 260 = .ok (.iload_n 2, 1) := by decide +kernel
theorem dX11_mostPairs_261 : decode cX11_mostPairs 261 = .ok (.if_icmp .ge 23, 3) := by decide +kernel
theorem dX11_mostPairs_264 : decode cX11_mostPairs 264 = .ok (.aload_n 0, 1) := by decide +kernel
theorem dX11_mostPairs_265 : decode cX11_mostPairs 265 = .ok (.getfield 40, 3) := by decide +kernel
theorem dX11_mostPairs_268 : decode cX11_mostPairs 268 = .ok (.iload 9, 2) := by decide +kernel
theorem dX11_mostPairs_270 : decode cX11_mostPairs 270 = .ok (.aload_n 0, 1) := by decide +kernel
theorem dX11_mostPairs_271 : decode cX11_mostPairs 271 = .ok (.getfield 37, 3) := by decide +kernel
theorem dX11_mostPairs_274 : decode cX11_mostPairs 274 = .ok (.iload 9, 2) := by decide +kernel
theorem dX11_mostPairs_276 : decode cX11_mostPairs 276 = .ok (.iaload, 1) := by decide +kernel
theorem dX11_mostPairs_277 : decode cX11_mostPairs 277 = .ok (.iastore, 1) := by decide +kernel
theorem dX11_mostPairs_278 : decode cX11_mostPairs 278 = .ok (.iinc 9 1, 3) := by decide +kernel
theorem dX11_mostPairs_281 : decode cX11_mostPairs 281 = .ok (.goto (-23), 3) := by decide +kernel
theorem dX11_mostPairs_284 : decode cX11_mostPairs 284 = .ok (.iinc 5 1, 3) := by decide +kernel
theorem dX11_mostPairs_287 : decode cX11_mostPairs 287 = .ok (.goto (-252), 3) := by decide +kernel
theorem dX11_mostPairs_290 : decode cX11_mostPairs 290 = .ok (.iload 4, 2) := by decide +kernel
theorem dX11_mostPairs_292 : decode cX11_mostPairs 292 = .ok (.iconst 2, 1) := by decide +kernel
theorem dX11_mostPairs_293 : decode cX11_mostPairs 293 = .ok (.idiv, 1) := by decide +kernel
theorem dX11_mostPairs_294 : decode cX11_mostPairs 294 = .ok (.ireturn, 1) := by decide +kernel
theorem dX11_mayWed_0 : decode cX11_mayWed 0 = .ok (.aload_n 0, 1) := by decide +kernel
theorem dX11_mayWed_1 : decode cX11_mayWed 1 = .ok (.getfield 19, 3) := by decide +kernel
theorem dX11_mayWed_4 : decode cX11_mayWed 4 = .ok (.iconst 3, 1) := by decide +kernel
theorem dX11_mayWed_5 : decode cX11_mayWed 5 = .ok (.iconst 2, 1) := by decide +kernel
theorem dX11_mayWed_6 : decode cX11_mayWed 6 = .ok (.iload_n 1, 1) := by decide +kernel
theorem dX11_mayWed_7 : decode cX11_mayWed 7 = .ok (.imul, 1) := by decide +kernel
theorem dX11_mayWed_8 : decode cX11_mayWed 8 = .ok (.iadd, 1) := by decide +kernel
theorem dX11_mayWed_9 : decode cX11_mayWed 9 = .ok (.iaload, 1) := by decide +kernel
theorem dX11_mayWed_10 : decode cX11_mayWed 10 = .ok (.istore 4, 2) := by decide +kernel
theorem dX11_mayWed_12 : decode cX11_mayWed 12 = .ok (.aload_n 0, 1) := by decide +kernel
theorem dX11_mayWed_13 : decode cX11_mayWed 13 = .ok (.getfield 19, 3) := by decide +kernel
theorem dX11_mayWed_16 : decode cX11_mayWed 16 = .ok (.iconst 3, 1) := by decide +kernel
theorem dX11_mayWed_17 : decode cX11_mayWed 17 = .ok (.iconst 2, 1) := by decide +kernel
theorem dX11_mayWed_18 : decode cX11_mayWed 18 = .ok (.iload_n 2, 1) := by decide +kernel
theorem dX11_mayWed_19 : decode cX11_mayWed 19 = .ok (.imul, 1) := by decide +kernel
theorem dX11_mayWed_20 : decode cX11_mayWed 20 = .ok (.iadd, 1) := by decide +kernel
theorem dX11_mayWed_21 : decode cX11_mayWed 21 = .ok (.iaload, 1) := by decide +kernel
theorem dX11_mayWed_22 : decode cX11_mayWed 22 = .ok (.istore 5, 2) := by decide +kernel
theorem dX11_mayWed_24 : decode cX11_mayWed 24 = .ok (.iload 4, 2) := by decide +kernel
theorem dX11_mayWed_26 : decode cX11_mayWed 26 = .ok (.iload 5, 2) := by decide +kernel
theorem dX11_mayWed_28 : decode cX11_mayWed 28 = .ok (.if_icmp .ge 11, 3) := by decide +kernel
theorem dX11_mayWed_31 : decode cX11_mayWed 31 = .ok (.iload 5, 2) := by decide +kernel
theorem dX11_mayWed_33 : decode cX11_mayWed 33 = .ok (.iload 4, 2) := by decide +kernel
theorem dX11_mayWed_35 : decode cX11_mayWed 35 = .ok (.isub, 1) := by decide +kernel
theorem dX11_mayWed_36 : decode cX11_mayWed 36 = .ok (.goto 8, 3) := by decide +kernel
theorem dX11_mayWed_39 : decode cX11_mayWed 39 = .ok (.iload 4, 2) := by decide +kernel
theorem dX11_mayWed_41 : decode cX11_mayWed 41 = .ok (.iload 5, 2) := by decide +kernel
theorem dX11_mayWed_43 : decode cX11_mayWed 43 = .ok (.isub, 1) := by decide +kernel
theorem dX11_mayWed_44 : decode cX11_mayWed 44 = .ok (.istore 6, 2) := by decide +kernel
theorem dX11_mayWed_46 : decode cX11_mayWed 46 = .ok (.iload 4, 2) := by decide +kernel
theorem dX11_mayWed_48 : decode cX11_mayWed 48 = .ok (.aload_n 0, 1) := by decide +kernel
theorem dX11_mayWed_49 : decode cX11_mayWed 49 = .ok (.getfield 13, 3) := by decide +kernel
theorem dX11_mayWed_52 : decode cX11_mayWed 52 = .ok (.bipush 7, 2) := by decide +kernel
theorem dX11_mayWed_54 : decode cX11_mayWed 54 = .ok (.iaload, 1) := by decide +kernel
theorem dX11_mayWed_55 : decode cX11_mayWed 55 = .ok (.if_icmp .lt 25, 3) := by decide +kernel
theorem dX11_mayWed_58 : decode cX11_mayWed 58 = .ok (.iload 5, 2) := by decide +kernel
theorem dX11_mayWed_60 : decode cX11_mayWed 60 = .ok (.aload_n 0, 1) := by decide +kernel
theorem dX11_mayWed_61 : decode cX11_mayWed 61 = .ok (.getfield 13, 3) := by decide +kernel
theorem dX11_mayWed_64 : decode cX11_mayWed 64 = .ok (.bipush 7, 2) := by decide +kernel
theorem dX11_mayWed_66 : decode cX11_mayWed 66 = .ok (.iaload, 1) := by decide +kernel
theorem dX11_mayWed_67 : decode cX11_mayWed 67 = .ok (.if_icmp .lt 13, 3) := by decide +kernel
theorem dX11_mayWed_70 : decode cX11_mayWed 70 = .ok (.iload 6, 2) := by decide +kernel
theorem dX11_mayWed_72 : decode cX11_mayWed 72 = .ok (.iload_n 3, 1) := by decide +kernel
theorem dX11_mayWed_73 : decode cX11_mayWed 73 = .ok (.if_icmp .gt 7, 3) := by decide +kernel
theorem dX11_mayWed_76 : decode cX11_mayWed 76 = .ok (.iconst 1, 1) := by decide +kernel
theorem dX11_mayWed_77 : decode cX11_mayWed 77 = .ok (.goto 4, 3) := by decide +kernel
theorem dX11_mayWed_80 : decode cX11_mayWed 80 = .ok (.iconst 0, 1) := by decide +kernel
theorem dX11_mayWed_81 : decode cX11_mayWed 81 = .ok (.ireturn, 1) := by decide +kernel
set_option maxRecDepth 20000 in
theorem ggX11_couples_X11_isPerson : GoodIn wsX11_couples wsX11_isPerson := goodIn_r _ [9, 10, 11, 12, 8, 13, 24, 25, 26, 27, 28, 29, 30, 31, 32, 33, 34, 35, 36, 37, 38, 39, 40, 41, 42, 43, 44, 45, 46, 47, 48, 49, 50] (by decide +kernel) (by decide +kernel)
set_option maxRecDepth 20000 in
theorem gX11_couples_X11_isPerson : GoodIn wsX11_couples (wsV RX11 135 RX11 yX11_isPerson wsX11_isPerson) := goodIn_app (goodIn_of _ (by decide +kernel)) ggX11_couples_X11_isPerson
set_option maxRecDepth 20000 in
theorem ggX11_couples_X11_in : GoodIn wsX11_couples wsX11_in := goodIn_r _ [13] (by decide +kernel) (by decide +kernel)
set_option maxRecDepth 20000 in
theorem gX11_couples_X11_in : GoodIn wsX11_couples (va_wsS RX11 67 yX11_in wsX11_in) := goodIn_app (goodIn_of _ (by decide +kernel)) ggX11_couples_X11_in
set_option maxRecDepth 20000 in
theorem ggX11_couples_X11_mostPairs : GoodIn wsX11_couples wsX11_mostPairs := goodIn_r _ [17, 10, 18, 4, 19, 20, 21, 8, 22, 23, 24, 25, 26, 27, 28, 29, 30, 31, 32, 33, 34, 35, 36, 37, 38, 39, 40, 41, 42, 43, 44, 45, 46, 47, 48, 49, 50] (by decide +kernel) (by decide +kernel)
set_option maxRecDepth 20000 in
theorem gX11_couples_X11_mostPairs : GoodIn wsX11_couples (wsV RX11 216 RX11 yX11_mostPairs wsX11_mostPairs) := goodIn_app (goodIn_of _ (by decide +kernel)) ggX11_couples_X11_mostPairs
theorem dX11_couples_0 : decode cX11_couples 0 = .ok (.iload_n 2, 1) := by decide +kernel
theorem dX11_couples_1 : decode cX11_couples 1 = .ok (.iconst (-1), 1) := by decide +kernel
theorem dX11_couples_2 : decode cX11_couples 2 = .ok (.if_icmp .eq 14, 3) := by decide +kernel
theorem dX11_couples_5 : decode cX11_couples 5 = .ok (.aload_n 0, 1) := by decide +kernel
theorem dX11_couples_6 : decode cX11_couples 6 = .ok (.iload_n 2, 1) := by decide +kernel
theorem dX11_couples_7 : decode cX11_couples 7 = .ok (.invokevirtual 135, 3) := by decide +kernel
theorem dX11_couples_10 : decode cX11_couples 10 = .ok (.ifCond .ne 6, 3) := by decide +kernel
theorem dX11_couples_13 : decode cX11_couples 13 = .ok (.ldc 139, 2) := by decide +kernel
theorem dX11_couples_15 : decode cX11_couples 15 = .ok (.ireturn, 1) := by decide +kernel
theorem dX11_couples_16 : decode cX11_couples 16 = .ok (.iload_n 1, 1) := by decide +kernel
theorem dX11_couples_17 : decode cX11_couples 17 = .ok (.i2l, 1) := by decide +kernel
theorem dX11_couples_18 : decode cX11_couples 18 = .ok (.lconst 0, 1) := by decide +kernel
theorem dX11_couples_19 : decode cX11_couples 19 = .ok (.ldc2_w 169, 3) := by decide +kernel
theorem dX11_couples_22 : decode cX11_couples 22 = .ok (.invokestatic 67, 3) := by decide +kernel
theorem dX11_couples_25 : decode cX11_couples 25 = .ok (.ifCond .ne 6, 3) := by decide +kernel
theorem dX11_couples_28 : decode cX11_couples 28 = .ok (.ldc 71, 2) := by decide +kernel
theorem dX11_couples_30 : decode cX11_couples 30 = .ok (.ireturn, 1) := by decide +kernel
theorem dX11_couples_31 : decode cX11_couples 31 = .ok (.aload_n 0, 1) := by decide +kernel
theorem dX11_couples_32 : decode cX11_couples 32 = .ok (.iload_n 1, 1) := by decide +kernel
theorem dX11_couples_33 : decode cX11_couples 33 = .ok (.invokevirtual 216, 3) := by decide +kernel
theorem dX11_couples_36 : decode cX11_couples 36 = .ok (.istore_n 3, 1) := by decide +kernel
theorem dX11_couples_37 : decode cX11_couples 37 = .ok (.iload_n 2, 1) := by decide +kernel
theorem dX11_couples_38 : decode cX11_couples 38 = .ok (.iconst (-1), 1) := by decide +kernel
theorem dX11_couples_39 : decode cX11_couples 39 = .ok (.if_icmp .ne 7, 3) := by decide +kernel
theorem dX11_couples_42 : decode cX11_couples 42 = .ok (.iload_n 3, 1) := by decide +kernel
theorem dX11_couples_43 : decode cX11_couples 43 = .ok (.goto 9, 3) := by decide +kernel
theorem dX11_couples_46 : decode cX11_couples 46 = .ok (.aload_n 0, 1) := by decide +kernel
theorem dX11_couples_47 : decode cX11_couples 47 = .ok (.getfield 40, 3) := by decide +kernel
theorem dX11_couples_50 : decode cX11_couples 50 = .ok (.iload_n 2, 1) := by decide +kernel
theorem dX11_couples_51 : decode cX11_couples 51 = .ok (.iaload, 1) := by decide +kernel
theorem dX11_couples_52 : decode cX11_couples 52 = .ok (.ireturn, 1) := by decide +kernel
set_option maxRecDepth 20000 in
theorem ggX11_see_X11_isTicket : GoodIn wsX11_see wsX11_isTicket := goodIn_r _ [9, 10, 11, 12, 8, 13, 14, 15, 16, 17, 18, 19, 20, 21, 22, 23, 24, 25, 26, 27, 28, 29, 30, 31, 32, 33, 34, 35, 36, 37, 38, 39, 40] (by decide +kernel) (by decide +kernel)
set_option maxRecDepth 20000 in
theorem gX11_see_X11_isTicket : GoodIn wsX11_see (wsV RX11 146 RX11 yX11_isTicket wsX11_isTicket) := goodIn_app (goodIn_of _ (by decide +kernel)) ggX11_see_X11_isTicket
theorem dX11_see_0 : decode cX11_see 0 = .ok (.aload_n 0, 1) := by decide +kernel
theorem dX11_see_1 : decode cX11_see 1 = .ok (.iload_n 1, 1) := by decide +kernel
theorem dX11_see_2 : decode cX11_see 2 = .ok (.invokevirtual 146, 3) := by decide +kernel
theorem dX11_see_5 : decode cX11_see 5 = .ok (.ifCond .ne 6, 3) := by decide +kernel
theorem dX11_see_8 : decode cX11_see 8 = .ok (.ldc 139, 2) := by decide +kernel
theorem dX11_see_10 : decode cX11_see 10 = .ok (.ireturn, 1) := by decide +kernel
theorem dX11_see_11 : decode cX11_see 11 = .ok (.aload_n 0, 1) := by decide +kernel
theorem dX11_see_12 : decode cX11_see 12 = .ok (.getfield 110, 3) := by decide +kernel
theorem dX11_see_15 : decode cX11_see 15 = .ok (.bipush 8, 2) := by decide +kernel
theorem dX11_see_17 : decode cX11_see 17 = .ok (.if_icmp .ne 6, 3) := by decide +kernel
theorem dX11_see_20 : decode cX11_see 20 = .ok (.ldc 75, 2) := by decide +kernel
theorem dX11_see_22 : decode cX11_see 22 = .ok (.ireturn, 1) := by decide +kernel
theorem dX11_see_23 : decode cX11_see 23 = .ok (.aload_n 0, 1) := by decide +kernel
theorem dX11_see_24 : decode cX11_see 24 = .ok (.getfield 43, 3) := by decide +kernel
theorem dX11_see_27 : decode cX11_see 27 = .ok (.aload_n 0, 1) := by decide +kernel
theorem dX11_see_28 : decode cX11_see 28 = .ok (.getfield 110, 3) := by decide +kernel
theorem dX11_see_31 : decode cX11_see 31 = .ok (.iload_n 1, 1) := by decide +kernel
theorem dX11_see_32 : decode cX11_see 32 = .ok (.iastore, 1) := by decide +kernel
theorem dX11_see_33 : decode cX11_see 33 = .ok (.aload_n 0, 1) := by decide +kernel
theorem dX11_see_34 : decode cX11_see 34 = .ok (.dup, 1) := by decide +kernel
theorem dX11_see_35 : decode cX11_see 35 = .ok (.getfield 110, 3) := by decide +kernel
theorem dX11_see_38 : decode cX11_see 38 = .ok (.iconst 1, 1) := by decide +kernel
theorem dX11_see_39 : decode cX11_see 39 = .ok (.iadd, 1) := by decide +kernel
theorem dX11_see_40 : decode cX11_see 40 = .ok (.putfield 110, 3) := by decide +kernel
theorem dX11_see_43 : decode cX11_see 43 = .ok (.aload_n 0, 1) := by decide +kernel
theorem dX11_see_44 : decode cX11_see 44 = .ok (.getfield 110, 3) := by decide +kernel
theorem dX11_see_47 : decode cX11_see 47 = .ok (.ireturn, 1) := by decide +kernel
set_option maxRecDepth 20000 in
theorem ggX11_guess_X11_all : GoodIn wsX11_guess wsX11_all := goodIn_r _ [8, 9, 18, 19, 20, 21, 22, 23, 24, 25, 26, 27, 28, 29, 30, 31, 32, 33, 34, 35, 36, 37, 38, 39, 40, 41, 42, 43, 44] (by decide +kernel) (by decide +kernel)
set_option maxRecDepth 20000 in
theorem gX11_guess_X11_all : GoodIn wsX11_guess (wsV RX11 107 RX11 yX11_all wsX11_all) := goodIn_app (goodIn_of _ (by decide +kernel)) ggX11_guess_X11_all
set_option maxRecDepth 20000 in
theorem ggX11_guess_X11_weightOf : GoodIn wsX11_guess wsX11_weightOf := goodIn_r _ [13, 9, 14, 15, 16, 7, 17, 18, 19, 20, 21, 22, 23, 24, 25, 26, 27, 28, 29, 30, 31, 32, 33, 34, 35, 36, 37, 38, 39, 40, 41, 42, 43, 44] (by decide +kernel) (by decide +kernel)
set_option maxRecDepth 20000 in
theorem gX11_guess_X11_weightOf : GoodIn wsX11_guess (wsV RX11 129 RX11 yX11_weightOf wsX11_weightOf) := goodIn_app (goodIn_of _ (by decide +kernel)) ggX11_guess_X11_weightOf
set_option maxRecDepth 20000 in
theorem ggX11_guess_X11_weight : GoodIn wsX11_guess wsX11_weight := goodIn_r _ [17, 9, 18, 19, 20, 21, 22, 23, 24, 25, 26, 27, 28, 29, 30, 31, 32, 33, 34, 35, 36, 37, 38, 39, 40, 41, 42, 43, 44] (by decide +kernel) (by decide +kernel)
set_option maxRecDepth 20000 in
theorem gX11_guess_X11_weight : GoodIn wsX11_guess (wsV RX11 122 RX11 yX11_weight wsX11_weight) := goodIn_app (goodIn_of _ (by decide +kernel)) ggX11_guess_X11_weight
theorem dX11_guess_0 : decode cX11_guess 0 = .ok (.ldc2_w 196, 3) := by decide +kernel
theorem dX11_guess_3 : decode cX11_guess 3 = .ok (.lstore_n 2, 1) := by decide +kernel
theorem dX11_guess_4 : decode cX11_guess 4 = .ok (.aload_n 0, 1) := by decide +kernel
theorem dX11_guess_5 : decode cX11_guess 5 = .ok (.aload_n 0, 1) := by decide +kernel
theorem dX11_guess_6 : decode cX11_guess 6 = .ok (.invokevirtual 107, 3) := by decide +kernel
theorem dX11_guess_9 : decode cX11_guess 9 = .ok (.invokevirtual 129, 3) := by decide +kernel
theorem dX11_guess_12 : decode cX11_guess 12 = .ok (.iload_n 1, 1) := by decide +kernel
theorem dX11_guess_13 : decode cX11_guess 13 = .ok (.iconst (-1), 1) := by decide +kernel
theorem dX11_guess_14 : decode cX11_guess 14 = .ok (.if_icmp .ne 7, 3) := by decide +kernel
theorem dX11_guess_17 : decode cX11_guess 17 = .ok (.iconst 0, 1) := by decide +kernel
theorem dX11_guess_18 : decode cX11_guess 18 = .ok (.goto 8, 3) := by decide +kernel
theorem dX11_guess_21 : decode cX11_guess 21 = .ok (.aload_n 0, 1) := by decide +kernel
theorem dX11_guess_22 : decode cX11_guess 22 = .ok (.iload_n 1, 1) := by decide +kernel
theorem dX11_guess_23 : decode cX11_guess 23 = .ok (.invokevirtual 122, 3) := by decide +kernel
theorem dX11_guess_26 : decode cX11_guess 26 = .ok (.iadd, 1) := by decide +kernel
theorem dX11_guess_27 : decode cX11_guess 27 = .ok (.istore 4, 2) := by decide +kernel
theorem dX11_guess_29 : decode cX11_guess 29 = .ok (.iconst 0, 1) := by decide +kernel
theorem dX11_guess_30 : decode cX11_guess 30 = .ok (.istore 5, 2) := by decide +kernel
theorem dX11_guess_32 : decode cX11_guess 32 = .ok (.iload 5, 2) := by decide +kernel
theorem dX11_guess_34 : decode cX11_guess 34 = .ok (.aload_n 0, 1) := by decide +kernel
theorem dX11_guess_35 : decode cX11_guess 35 = .ok (.getfield 110, 3) := by decide +kernel
theorem dX11_guess_38 : decode cX11_guess 38 = .ok (.if_icmp .ge 49, 3) := by decide +kernel
theorem dX11_guess_41 : decode cX11_guess 41 = .ok (.aload_n 0, 1) := by decide +kernel
theorem dX11_guess_42 : decode cX11_guess 42 = .ok (.getfield 43, 3) := by decide +kernel
theorem dX11_guess_45 : decode cX11_guess 45 = .ok (.iload 5, 2) := by decide +kernel
theorem dX11_guess_47 : decode cX11_guess 47 = .ok (.iaload, 1) := by decide +kernel
theorem dX11_guess_48 : decode cX11_guess 48 = .ok (.istore 6, 2) := by decide +kernel
theorem dX11_guess_50 : decode cX11_guess 50 = .ok (.lload_n 2, 1) := by decide +kernel
theorem dX11_guess_51 : decode cX11_guess 51 = .ok (.iload 6, 2) := by decide +kernel
theorem dX11_guess_53 : decode cX11_guess 53 = .ok (.iload_n 1, 1) := by decide +kernel
theorem dX11_guess_54 : decode cX11_guess 54 = .ok (.if_icmp .ne 14, 3) := by decide +kernel
theorem dX11_guess_57 : decode cX11_guess 57 = .ok (.iconst 2, 1) := by decide +kernel
theorem dX11_guess_58 : decode cX11_guess 58 = .ok (.aload_n 0, 1) := by decide +kernel
theorem dX11_guess_59 : decode cX11_guess 59 = .ok (.iload 6, 2) := by decide +kernel
theorem dX11_guess_61 : decode cX11_guess 61 = .ok (.invokevirtual 122, 3) := by decide +kernel
theorem dX11_guess_64 : decode cX11_guess 64 = .ok (.imul, 1) := by decide +kernel
theorem dX11_guess_65 : decode cX11_guess 65 = .ok (.goto 9, 3) := by decide +kernel
theorem dX11_guess_68 : decode cX11_guess 68 = .ok (.aload_n 0, 1) := by decide +kernel
theorem dX11_guess_69 : decode cX11_guess 69 = .ok (.iload 6, 2) := by decide +kernel
theorem dX11_guess_71 : decode cX11_guess 71 = .ok (.invokevirtual 122, 3) := by decide +kernel
theorem dX11_guess_74 : decode cX11_guess 74 = .ok (.i2l, 1) := by decide +kernel
theorem dX11_guess_75 : decode cX11_guess 75 = .ok (.lmul, 1) := by decide +kernel
theorem dX11_guess_76 : decode cX11_guess 76 = .ok (.iload 4, 2) := by decide +kernel
theorem dX11_guess_78 : decode cX11_guess 78 = .ok (.i2l, 1) := by decide +kernel
theorem dX11_guess_79 : decode cX11_guess 79 = .ok (.ldiv, 1) := by decide +kernel
theorem dX11_guess_80 : decode cX11_guess 80 = .ok (.lstore_n 2, 1) := by decide +kernel
theorem dX11_guess_81 : decode cX11_guess 81 = .ok (.iinc 5 1, 3) := by decide +kernel
theorem dX11_guess_84 : decode cX11_guess 84 = .ok (.goto (-52), 3) := by decide +kernel
theorem dX11_guess_87 : decode cX11_guess 87 = .ok (.lload_n 2, 1) := by decide +kernel
theorem dX11_guess_88 : decode cX11_guess 88 = .ok (.lreturn, 1) := by decide +kernel
set_option maxRecDepth 20000 in
theorem ggX11_belief_X11_isTicket : GoodIn wsX11_belief wsX11_isTicket := goodIn_r _ [8, 2, 9, 10, 7, 11, 31, 32, 33, 34, 35, 36, 37, 38, 39, 40, 41, 42, 43, 44, 45, 46, 47, 48, 49, 50, 51, 52, 53, 54, 55, 56, 57] (by decide +kernel) (by decide +kernel)
set_option maxRecDepth 20000 in
theorem gX11_belief_X11_isTicket : GoodIn wsX11_belief (wsV RX11 146 RX11 yX11_isTicket wsX11_isTicket) := goodIn_app (goodIn_of _ (by decide +kernel)) ggX11_belief_X11_isTicket
set_option maxRecDepth 20000 in
theorem ggX11_belief_X11_guess : GoodIn wsX11_belief wsX11_guess := goodIn_r _ [15, 16, 17, 18, 19, 20, 21, 7, 22, 2, 23, 24, 25, 26, 27, 28, 29, 30, 31, 32, 33, 34, 35, 36, 37, 38, 39, 40, 41, 42, 43, 44, 45, 46, 47, 48, 49, 50, 51, 52, 53, 54, 55, 56, 57] (by decide +kernel) (by decide +kernel)
set_option maxRecDepth 20000 in
theorem gX11_belief_X11_guess : GoodIn wsX11_belief (wsV RX11 219 RX11 yX11_guess wsX11_guess) := goodIn_app (goodIn_of _ (by decide +kernel)) ggX11_belief_X11_guess
theorem dX11_belief_0 : decode cX11_belief 0 = .ok (.iload_n 1, 1) := by decide +kernel
theorem dX11_belief_1 : decode cX11_belief 1 = .ok (.iconst (-1), 1) := by decide +kernel
theorem dX11_belief_2 : decode cX11_belief 2 = .ok (.if_icmp .eq 14, 3) := by decide +kernel
theorem dX11_belief_5 : decode cX11_belief 5 = .ok (.aload_n 0, 1) := by decide +kernel
theorem dX11_belief_6 : decode cX11_belief 6 = .ok (.iload_n 1, 1) := by decide +kernel
theorem dX11_belief_7 : decode cX11_belief 7 = .ok (.invokevirtual 146, 3) := by decide +kernel
theorem dX11_belief_10 : decode cX11_belief 10 = .ok (.ifCond .ne 6, 3) := by decide +kernel
theorem dX11_belief_13 : decode cX11_belief 13 = .ok (.ldc 139, 2) := by decide +kernel
theorem dX11_belief_15 : decode cX11_belief 15 = .ok (.ireturn, 1) := by decide +kernel
theorem dX11_belief_16 : decode cX11_belief 16 = .ok (.aload_n 0, 1) := by decide +kernel
theorem dX11_belief_17 : decode cX11_belief 17 = .ok (.iconst (-1), 1) := by decide +kernel
theorem dX11_belief_18 : decode cX11_belief 18 = .ok (.invokevirtual 219, 3) := by decide +kernel
theorem dX11_belief_21 : decode cX11_belief 21 = .ok (.lstore_n 2, 1) := by decide +kernel
theorem dX11_belief_22 : decode cX11_belief 22 = .ok (.iconst 0, 1) := by decide +kernel
theorem dX11_belief_23 : decode cX11_belief 23 = .ok (.istore 4, 2) := by decide +kernel
theorem dX11_belief_25 : decode cX11_belief 25 = .ok (.iload 4, 2) := by decide +kernel
theorem dX11_belief_27 : decode cX11_belief 27 = .ok (.aload_n 0, 1) := by decide +kernel
theorem dX11_belief_28 : decode cX11_belief 28 = .ok (.getfield 13, 3) := by decide +kernel
theorem dX11_belief_31 : decode cX11_belief 31 = .ok (.iconst 1, 1) := by decide +kernel
theorem dX11_belief_32 : decode cX11_belief 32 = .ok (.iaload, 1) := by decide +kernel
theorem dX11_belief_33 : decode cX11_belief 33 = .ok (.if_icmp .ge 18, 3) := by decide +kernel
theorem dX11_belief_36 : decode cX11_belief 36 = .ok (.lload_n 2, 1) := by decide +kernel
theorem dX11_belief_37 : decode cX11_belief 37 = .ok (.aload_n 0, 1) := by decide +kernel
theorem dX11_belief_38 : decode cX11_belief 38 = .ok (.iload 4, 2) := by decide +kernel
theorem dX11_belief_40 : decode cX11_belief 40 = .ok (.invokevirtual 219, 3) := by decide +kernel
theorem dX11_belief_43 : decode cX11_belief 43 = .ok (.ladd, 1) := by decide +kernel
theorem dX11_belief_44 : decode cX11_belief 44 = .ok (.lstore_n 2, 1) := by decide +kernel
theorem dX11_belief_45 : decode cX11_belief 45 = .ok (.iinc 4 1, 3) := by decide +kernel
theorem dX11_belief_48 : decode cX11_belief 48 = .ok (.goto (-23), 3) := by decide +kernel
theorem dX11_belief_51 : decode cX11_belief 51 = .ok (.lload_n 2, 1) := by decide +kernel
theorem dX11_belief_52 : decode cX11_belief 52 = .ok (.lconst 0, 1) := by decide +kernel
theorem dX11_belief_53 : decode cX11_belief 53 = .ok (.lcmp, 1) := by decide +kernel
theorem dX11_belief_54 : decode cX11_belief 54 = .ok (.ifCond .ne 7, 3) := by decide +kernel
theorem dX11_belief_57 : decode cX11_belief 57 = .ok (.iconst 0, 1) := by decide +kernel
theorem dX11_belief_58 : decode cX11_belief 58 = .ok (.goto 15, 3) := by decide +kernel
theorem dX11_belief_61 : decode cX11_belief 61 = .ok (.aload_n 0, 1) := by decide +kernel
theorem dX11_belief_62 : decode cX11_belief 62 = .ok (.iload_n 1, 1) := by decide +kernel
theorem dX11_belief_63 : decode cX11_belief 63 = .ok (.invokevirtual 219, 3) := by decide +kernel
theorem dX11_belief_66 : decode cX11_belief 66 = .ok (.ldc2_w 223, 3) := by decide +kernel
theorem dX11_belief_69 : decode cX11_belief 69 = .ok (.lmul, 1) := by decide +kernel
theorem dX11_belief_70 : decode cX11_belief 70 = .ok (.lload_n 2, 1) := by decide +kernel
theorem dX11_belief_71 : decode cX11_belief 71 = .ok (.ldiv, 1) := by decide +kernel
theorem dX11_belief_72 : decode cX11_belief 72 = .ok (.l2i, 1) := by decide +kernel
theorem dX11_belief_73 : decode cX11_belief 73 = .ok (.ireturn, 1) := by decide +kernel
set_option maxRecDepth 20000 in
theorem ggX11_likeliest_X11_guess : GoodIn wsX11_likeliest wsX11_guess := goodIn_r _ [6, 7, 8, 9, 10, 11, 12, 5, 13, 1, 14, 15, 16, 17, 18, 19, 20, 21, 22, 23, 24, 25, 26, 27, 28, 29, 30, 31, 32, 33, 34, 35, 36, 37, 38, 39, 40, 41, 42, 43, 44, 45, 46, 47, 48] (by decide +kernel) (by decide +kernel)
set_option maxRecDepth 20000 in
theorem gX11_likeliest_X11_guess : GoodIn wsX11_likeliest (wsV RX11 219 RX11 yX11_guess wsX11_guess) := goodIn_app (goodIn_of _ (by decide +kernel)) ggX11_likeliest_X11_guess
theorem dX11_likeliest_0 : decode cX11_likeliest 0 = .ok (.iconst (-1), 1) := by decide +kernel
theorem dX11_likeliest_1 : decode cX11_likeliest 1 = .ok (.istore_n 1, 1) := by decide +kernel
theorem dX11_likeliest_2 : decode cX11_likeliest 2 = .ok (.aload_n 0, 1) := by decide +kernel
theorem dX11_likeliest_3 : decode cX11_likeliest 3 = .ok (.iconst (-1), 1) := by decide +kernel
theorem dX11_likeliest_4 : decode cX11_likeliest 4 = .ok (.invokevirtual 219, 3) := by decide +kernel
theorem dX11_likeliest_7 : decode cX11_likeliest 7 = .ok (.lstore_n 2, 1) := by decide +kernel
theorem dX11_likeliest_8 : decode cX11_likeliest 8 = .ok (.aload_n 0, 1) := by decide +kernel
theorem dX11_likeliest_9 : decode cX11_likeliest 9 = .ok (.getfield 13, 3) := by decide +kernel
theorem dX11_likeliest_12 : decode cX11_likeliest 12 = .ok (.iconst 1, 1) := by decide +kernel
theorem dX11_likeliest_13 : decode cX11_likeliest 13 = .ok (.iaload, 1) := by decide +kernel
theorem dX11_likeliest_14 : decode cX11_likeliest 14 = .ok (.iconst 1, 1) := by decide +kernel
theorem dX11_likeliest_15 : decode cX11_likeliest 15 = .ok (.isub, 1) := by decide +kernel
theorem dX11_likeliest_16 : decode cX11_likeliest 16 = .ok (.istore 4, 2) := by decide +kernel
theorem dX11_likeliest_18 : decode cX11_likeliest 18 = .ok (.iload 4, 2) := by decide +kernel
theorem dX11_likeliest_20 : decode cX11_likeliest 20 = .ok (.ifCond .lt 45, 3) := by decide +kernel
theorem dX11_likeliest_23 : decode cX11_likeliest 23 = .ok (.aload_n 0, 1) := by decide +kernel
theorem dX11_likeliest_24 : decode cX11_likeliest 24 = .ok (.iload 4, 2) := by decide +kernel
theorem dX11_likeliest_26 : decode cX11_likeliest 26 = .ok (.invokevirtual 219, 3) := by decide +kernel
theorem dX11_likeliest_29 : decode cX11_likeliest 29 = .ok (.lstore 5, 2) := by decide +kernel
theorem dX11_likeliest_31 : decode cX11_likeliest 31 = .ok (.lload 5, 2) := by decide +kernel
theorem dX11_likeliest_33 : decode cX11_likeliest 33 = .ok (.lload_n 2, 1) := by decide +kernel
theorem dX11_likeliest_34 : decode cX11_likeliest 34 = .ok (.lcmp, 1) := by decide +kernel
theorem dX11_likeliest_35 : decode cX11_likeliest 35 = .ok (.ifCond .lt 8, 3) := by decide +kernel
theorem dX11_likeliest_38 : decode cX11_likeliest 38 = .ok (.iload 4, 2) := by decide +kernel
theorem dX11_likeliest_40 : decode cX11_likeliest 40 = .ok (.goto 4, 3) := by decide +kernel
theorem dX11_likeliest_43 : decode cX11_likeliest 43 = .ok (.iload_n 1, 1) := by decide +kernel
theorem dX11_likeliest_44 : decode cX11_likeliest 44 = .ok (.istore_n 1, 1) := by decide +kernel
theorem dX11_likeliest_45 : decode cX11_likeliest 45 = .ok (.lload 5, 2) := by decide +kernel
theorem dX11_likeliest_47 : decode cX11_likeliest 47 = .ok (.lload_n 2, 1) := by decide +kernel
theorem dX11_likeliest_48 : decode cX11_likeliest 48 = .ok (.lcmp, 1) := by decide +kernel
theorem dX11_likeliest_49 : decode cX11_likeliest 49 = .ok (.ifCond .lt 8, 3) := by decide +kernel
theorem dX11_likeliest_52 : decode cX11_likeliest 52 = .ok (.lload 5, 2) := by decide +kernel
theorem dX11_likeliest_54 : decode cX11_likeliest 54 = .ok (.goto 4, 3) := by decide +kernel
theorem dX11_likeliest_57 : decode cX11_likeliest 57 = .ok (.lload_n 2, 1) := by decide +kernel
theorem dX11_likeliest_58 : decode cX11_likeliest 58 = .ok (.lstore_n 2, 1) := by decide +kernel
theorem dX11_likeliest_59 : decode cX11_likeliest 59 = .ok (.iinc 4 (-1), 3) := by decide +kernel
theorem dX11_likeliest_62 : decode cX11_likeliest 62 = .ok (.goto (-44), 3) := by decide +kernel
theorem dX11_likeliest_65 : decode cX11_likeliest 65 = .ok (.iload_n 1, 1) := by decide +kernel
theorem dX11_likeliest_66 : decode cX11_likeliest 66 = .ok (.ireturn, 1) := by decide +kernel
set_option maxRecDepth 20000 in
theorem ggX11_candles_X11_isPerson : GoodIn wsX11_candles wsX11_isPerson := goodIn_r _ [10, 11, 12, 13, 9, 14, 15, 16, 17, 18, 19, 20, 21, 22, 23, 24, 25, 26, 27, 28, 29, 30, 31, 32, 33, 34, 35, 36, 37, 38, 39, 40, 41] (by decide +kernel) (by decide +kernel)
set_option maxRecDepth 20000 in
theorem gX11_candles_X11_isPerson : GoodIn wsX11_candles (wsV RX11 135 RX11 yX11_isPerson wsX11_isPerson) := goodIn_app (goodIn_of _ (by decide +kernel)) ggX11_candles_X11_isPerson
set_option maxRecDepth 20000 in
theorem ggX11_candles_X11_in : GoodIn wsX11_candles wsX11_in := goodIn_r _ [14] (by decide +kernel) (by decide +kernel)
set_option maxRecDepth 20000 in
theorem gX11_candles_X11_in : GoodIn wsX11_candles (va_wsS RX11 67 yX11_in wsX11_in) := goodIn_app (goodIn_of _ (by decide +kernel)) ggX11_candles_X11_in
theorem dX11_candles_0 : decode cX11_candles 0 = .ok (.aload_n 0, 1) := by decide +kernel
theorem dX11_candles_1 : decode cX11_candles 1 = .ok (.iload_n 1, 1) := by decide +kernel
theorem dX11_candles_2 : decode cX11_candles 2 = .ok (.invokevirtual 135, 3) := by decide +kernel
theorem dX11_candles_5 : decode cX11_candles 5 = .ok (.ifCond .ne 6, 3) := by decide +kernel
theorem dX11_candles_8 : decode cX11_candles 8 = .ok (.ldc 139, 2) := by decide +kernel
theorem dX11_candles_10 : decode cX11_candles 10 = .ok (.ireturn, 1) := by decide +kernel
theorem dX11_candles_11 : decode cX11_candles 11 = .ok (.iload_n 2, 1) := by decide +kernel
theorem dX11_candles_12 : decode cX11_candles 12 = .ok (.i2l, 1) := by decide +kernel
theorem dX11_candles_13 : decode cX11_candles 13 = .ok (.lconst 0, 1) := by decide +kernel
theorem dX11_candles_14 : decode cX11_candles 14 = .ok (.ldc2_w 225, 3) := by decide +kernel
theorem dX11_candles_17 : decode cX11_candles 17 = .ok (.invokestatic 67, 3) := by decide +kernel
theorem dX11_candles_20 : decode cX11_candles 20 = .ok (.ifCond .ne 6, 3) := by decide +kernel
theorem dX11_candles_23 : decode cX11_candles 23 = .ok (.ldc 71, 2) := by decide +kernel
theorem dX11_candles_25 : decode cX11_candles 25 = .ok (.ireturn, 1) := by decide +kernel
theorem dX11_candles_26 : decode cX11_candles 26 = .ok (.aload_n 0, 1) := by decide +kernel
theorem dX11_candles_27 : decode cX11_candles 27 = .ok (.getfield 46, 3) := by decide +kernel
theorem dX11_candles_30 : decode cX11_candles 30 = .ok (.iload_n 1, 1) := by decide +kernel
theorem dX11_candles_31 : decode cX11_candles 31 = .ok (.iload_n 2, 1) := by decide +kernel
theorem dX11_candles_32 : decode cX11_candles 32 = .ok (.iastore, 1) := by decide +kernel
theorem dX11_candles_33 : decode cX11_candles 33 = .ok (.aload_n 0, 1) := by decide +kernel
theorem dX11_candles_34 : decode cX11_candles 34 = .ok (.dup, 1) := by decide +kernel
theorem dX11_candles_35 : decode cX11_candles 35 = .ok (.getfield 116, 3) := by decide +kernel
theorem dX11_candles_38 : decode cX11_candles 38 = .ok (.iconst 1, 1) := by decide +kernel
theorem dX11_candles_39 : decode cX11_candles 39 = .ok (.iload_n 1, 1) := by decide +kernel
theorem dX11_candles_40 : decode cX11_candles 40 = .ok (.ishl, 1) := by decide +kernel
theorem dX11_candles_41 : decode cX11_candles 41 = .ok (.ior, 1) := by decide +kernel
theorem dX11_candles_42 : decode cX11_candles 42 = .ok (.putfield 116, 3) := by decide +kernel
theorem dX11_candles_45 : decode cX11_candles 45 = .ok (.aload_n 0, 1) := by decide +kernel
theorem dX11_candles_46 : decode cX11_candles 46 = .ok (.getfield 116, 3) := by decide +kernel
theorem dX11_candles_49 : decode cX11_candles 49 = .ok (.ireturn, 1) := by decide +kernel
set_option maxRecDepth 20000 in
theorem ggX11_goThrough_X11_all : GoodIn wsX11_goThrough wsX11_all := goodIn_r _ [12, 1, 30, 31, 32, 33, 34, 35, 36, 37, 38, 39, 40, 41, 42, 43, 44, 45, 46, 47, 48, 49, 50, 51, 52, 53, 54, 55, 56] (by decide +kernel) (by decide +kernel)
set_option maxRecDepth 20000 in
theorem gX11_goThrough_X11_all : GoodIn wsX11_goThrough (wsV RX11 107 RX11 yX11_all wsX11_all) := goodIn_app (goodIn_of _ (by decide +kernel)) ggX11_goThrough_X11_all
set_option maxRecDepth 20000 in
theorem ggX11_goThrough_X11_asides : GoodIn wsX11_goThrough wsX11_asides := goodIn_r _ [16, 17, 5, 30, 31, 32, 33, 34, 35, 36, 37, 38, 39, 40, 41, 42, 43, 44, 45, 46, 47, 48, 49, 50, 51, 52, 53, 54, 55, 56] (by decide +kernel) (by decide +kernel)
set_option maxRecDepth 20000 in
theorem gX11_goThrough_X11_asides : GoodIn wsX11_goThrough (wsV RX11 206 RX11 yX11_asides wsX11_asides) := goodIn_app (goodIn_of _ (by decide +kernel)) ggX11_goThrough_X11_asides
set_option maxRecDepth 20000 in
theorem ggX11_goThrough_X11_draws : GoodIn wsX11_goThrough wsX11_draws := goodIn_r _ [21, 5, 1, 22, 23, 24, 11, 25, 8, 9, 10, 12, 30, 31, 32, 33, 34, 35, 36, 37, 38, 39, 40, 41, 42, 43, 44, 45, 46, 47, 48, 49, 50, 51, 52, 53, 54, 55, 56] (by decide +kernel) (by decide +kernel)
set_option maxRecDepth 20000 in
theorem gX11_goThrough_X11_draws : GoodIn wsX11_goThrough (wsV RX11 156 RX11 yX11_draws wsX11_draws) := goodIn_app (goodIn_of _ (by decide +kernel)) ggX11_goThrough_X11_draws
set_option maxRecDepth 20000 in
theorem ggX11_goThrough_X11_backs : GoodIn wsX11_goThrough wsX11_backs := goodIn_r _ [29, 5, 17, 30, 31, 32, 33, 34, 35, 36, 37, 38, 39, 40, 41, 42, 43, 44, 45, 46, 47, 48, 49, 50, 51, 52, 53, 54, 55, 56] (by decide +kernel) (by decide +kernel)
set_option maxRecDepth 20000 in
theorem gX11_goThrough_X11_backs : GoodIn wsX11_goThrough (wsV RX11 201 RX11 yX11_backs wsX11_backs) := goodIn_app (goodIn_of _ (by decide +kernel)) ggX11_goThrough_X11_backs
theorem dX11_goThrough_0 : decode cX11_goThrough 0 = .ok (.iconst 1, 1) := by decide +kernel
theorem dX11_goThrough_1 : decode cX11_goThrough 1 = .ok (.istore_n 2, 1) := by decide +kernel
theorem dX11_goThrough_2 : decode cX11_goThrough 2 = .ok (.iconst 0, 1) := by decide +kernel
theorem dX11_goThrough_3 : decode cX11_goThrough 3 = .ok (.istore_n 3, 1) := by decide +kernel
theorem dX11_goThrough_4 : decode cX11_goThrough 4 = .ok (.iload_n 3, 1) := by decide +kernel
theorem dX11_goThrough_5 : decode cX11_goThrough 5 = .ok (.iload_n 1, 1) := by decide +kernel
theorem dX11_goThrough_6 : decode cX11_goThrough 6 = .ok (.if_icmp .ge 18, 3) := by decide +kernel
theorem dX11_goThrough_9 : decode cX11_goThrough 9 = .ok (.iload_n 2, 1) := by decide +kernel
theorem dX11_goThrough_10 : decode cX11_goThrough 10 = .ok (.aload_n 0, 1) := by decide +kernel
theorem dX11_goThrough_11 : decode cX11_goThrough 11 = .ok (.getfield 13, 3) := by decide +kernel
theorem dX11_goThrough_14 : decode cX11_goThrough 14 = .ok (.iconst 1, 1) := by decide +kernel
theorem dX11_goThrough_15 : decode cX11_goThrough 15 = .ok (.iaload, 1) := by decide +kernel
theorem dX11_goThrough_16 : decode cX11_goThrough 16 = .ok (.imul, 1) := by decide +kernel
theorem dX11_goThrough_17 : decode cX11_goThrough 17 = .ok (.istore_n 2, 1) := by decide +kernel
theorem dX11_goThrough_18 : decode cX11_goThrough 18 = .ok (.iinc 3 1, 3) := by decide +kernel
theorem dX11_goThrough_21 : decode cX11_goThrough 21 = .ok (.goto (-17), 3) := by decide +kernel
theorem dX11_goThrough_24 : decode cX11_goThrough 24 = .ok (.aload_n 0, 1) := by decide +kernel
theorem dX11_goThrough_25 : decode cX11_goThrough 25 = .ok (.iconst 0, 1) := by decide +kernel
theorem dX11_goThrough_26 : decode cX11_goThrough 26 = .ok (.putfield 227, 3) := by decide +kernel
theorem dX11_goThrough_29 : decode cX11_goThrough 29 = .ok (.aload_n 0, 1) := by decide +kernel
theorem dX11_goThrough_30 : decode cX11_goThrough 30 = .ok (.iconst 0, 1) := by decide +kernel
theorem dX11_goThrough_31 : decode cX11_goThrough 31 = .ok (.putfield 229, 3) := by decide +kernel
theorem dX11_goThrough_34 : decode cX11_goThrough 34 = .ok (.aload_n 0, 1) := by decide +kernel
theorem dX11_goThrough_35 : decode cX11_goThrough 35 = .ok (.aload_n 0, 1) := by decide +kernel
theorem dX11_goThrough_36 : decode cX11_goThrough 36 = .ok (.invokevirtual 107, 3) := by decide +kernel
theorem dX11_goThrough_39 : decode cX11_goThrough 39 = .ok (.putfield 232, 3) := by decide +kernel
theorem dX11_goThrough_42 : decode cX11_goThrough 42 = .ok (.aload_n 0, 1) := by decide +kernel
theorem dX11_goThrough_43 : decode cX11_goThrough 43 = .ok (.invokevirtual 206, 3) := by decide +kernel
theorem dX11_goThrough_46 : decode cX11_goThrough 46 = .ok (.iconst 0, 1) := by decide +kernel
theorem dX11_goThrough_47 : decode cX11_goThrough 47 = .ok (.istore_n 3, 1) := by decide +kernel
theorem dX11_goThrough_48 : decode cX11_goThrough 48 = .ok (.iload_n 3, 1) := by decide +kernel
theorem dX11_goThrough_49 : decode cX11_goThrough 49 = .ok (.iload_n 2, 1) := by decide +kernel
theorem dX11_goThrough_50 : decode cX11_goThrough 50 = .ok (.if_icmp .ge 242, 3) := by decide +kernel
theorem dX11_goThrough_53 : decode cX11_goThrough 53 = .ok (.iconst 0, 1) := by decide +kernel
theorem dX11_goThrough_54 : decode cX11_goThrough 54 = .ok (.istore 4, 2) := by decide +kernel
theorem dX11_goThrough_56 : decode cX11_goThrough 56 = .ok (.iconst 1, 1) := by decide +kernel
theorem dX11_goThrough_57 : decode cX11_goThrough 57 = .ok (.istore 5, 2) := by decide +kernel
theorem dX11_goThrough_59 : decode cX11_goThrough 59 = .ok (.iload_n 2, 1) := by decide +kernel
theorem dX11_goThrough_60 : decode cX11_goThrough 60 = .ok (.istore 6, 2) := by decide +kernel
theorem dX11_goThrough_62 : decode cX11_goThrough 62 = .ok (.iconst 0, 1) := by decide +kernel
theorem dX11_goThrough_63 : decode cX11_goThrough 63 = .ok (.istore 7, 2) := by decide +kernel
theorem dX11_goThrough_65 : decode cX11_goThrough 65 = .ok (.iload 7, 2) := by decide +kernel
theorem dX11_goThrough_67 : decode cX11_goThrough 67 = .ok (.iload_n 1, 1) := by decide +kernel
theorem dX11_goThrough_68 : decode cX11_goThrough 68 = .ok (.if_icmp .ge 86, 3) := by decide +kernel
theorem dX11_goThrough_71 : decode cX11_goThrough 71 = .ok (.iload 5, 2) := by decide +kernel
theorem dX11_goThrough_73 : decode cX11_goThrough 73 = .ok (.ifCond .eq 81, 3) := by decide +kernel
theorem dX11_goThrough_76 : decode cX11_goThrough 76 = .ok (.iload 6, 2) := by decide +kernel
theorem dX11_goThrough_78 : decode cX11_goThrough 78 = .ok (.aload_n 0, 1) := by decide +kernel
theorem dX11_goThrough_79 : decode cX11_goThrough 79 = .ok (.getfield 13, 3) := by decide +kernel
theorem dX11_goThrough_82 : decode cX11_goThrough 82 = .ok (.iconst 1, 1) := by decide +kernel
theorem dX11_goThrough_83 : decode cX11_goThrough 83 = .ok (.iaload, 1) := by decide +kernel
theorem dX11_goThrough_84 : decode cX11_goThrough 84 = .ok (.idiv, 1) := by decide +kernel
theorem dX11_goThrough_85 : decode cX11_goThrough 85 = .ok (.istore 6, 2) := by decide +kernel
theorem dX11_goThrough_87 : decode cX11_goThrough 87 = .ok (.iload_n 3, 1) := by decide +kernel
theorem dX11_goThrough_88 : decode cX11_goThrough 88 = .ok (.iload 6, 2) := by decide +kernel
theorem dX11_goThrough_90 : decode cX11_goThrough 90 = .ok (.idiv, 1) := by decide +kernel
theorem dX11_goThrough_91 : decode cX11_goThrough 91 = .ok (.aload_n 0, 1) := by decide +kernel
theorem dX11_goThrough_92 : decode cX11_goThrough 92 = .ok (.getfield 13, 3) := by decide +kernel
theorem dX11_goThrough_95 : decode cX11_goThrough 95 = .ok (.iconst 1, 1) := by decide +kernel
theorem dX11_goThrough_96 : decode cX11_goThrough 96 = .ok (.iaload, 1) := by decide +kernel
theorem dX11_goThrough_97 : decode cX11_goThrough 97 = .ok (.irem, 1) := by decide +kernel
theorem dX11_goThrough_98 : decode cX11_goThrough 98 = .ok (.istore 8, 2) := by decide +kernel
theorem dX11_goThrough_100 : decode cX11_goThrough 100 = .ok (.aload_n 0, 1) := by decide +kernel
theorem dX11_goThrough_101 : decode cX11_goThrough 101 = .ok (.getfield 19, 3) := by decide +kernel
theorem dX11_goThrough_104 : decode cX11_goThrough 104 = .ok (.iconst 2, 1) := by decide +kernel
theorem dX11_goThrough_105 : decode cX11_goThrough 105 = .ok (.iaload, 1) := by decide +kernel
theorem dX11_goThrough_106 : decode cX11_goThrough 106 = .ok (.iload 8, 2) := by decide +kernel
theorem dX11_goThrough_108 : decode cX11_goThrough 108 = .ok (.ishr, 1) := by decide +kernel
theorem dX11_goThrough_109 : decode cX11_goThrough 109 = .ok (.iconst 1, 1) := by decide +kernel
theorem dX11_goThrough_110 : decode cX11_goThrough 110 = .ok (.iand, 1) := by decide +kernel
theorem dX11_goThrough_111 : decode cX11_goThrough 111 = .ok (.iconst 1, 1) := by decide +kernel
theorem dX11_goThrough_112 : decode cX11_goThrough 112 = .ok (.if_icmp .ne 7, 3) := by decide +kernel
theorem dX11_goThrough_115 : decode cX11_goThrough 115 = .ok (.iconst 1, 1) := by decide +kernel
theorem dX11_goThrough_116 : decode cX11_goThrough 116 = .ok (.goto 4, 3) := by decide +kernel
theorem dX11_goThrough_119 : decode cX11_goThrough 119 = .ok (.iconst 0, 1) := by decide +kernel
theorem dX11_goThrough_120 : decode cX11_goThrough 120 = .ok (.istore 5, 2) := by decide +kernel
theorem dX11_goThrough_122 : decode cX11_goThrough 122 = .ok (.iload 4, 2) := by decide +kernel
theorem dX11_goThrough_124 : decode cX11_goThrough 124 = .ok (.iconst 1, 1) := by decide +kernel
theorem dX11_goThrough_125 : decode cX11_goThrough 125 = .ok (.iload 8, 2) := by decide +kernel
theorem dX11_goThrough_127 : decode cX11_goThrough 127 = .ok (.ishl, 1) := by decide +kernel
theorem dX11_goThrough_128 : decode cX11_goThrough 128 = .ok (.ior, 1) := by decide +kernel
theorem dX11_goThrough_129 : decode cX11_goThrough 129 = .ok (.istore 4, 2) := by decide +kernel
theorem dX11_goThrough_131 : decode cX11_goThrough 131 = .ok (.iload 5, 2) := by decide +kernel
theorem dX11_goThrough_133 : decode cX11_goThrough 133 = .ok (.ifCond .eq 15, 3) := by decide +kernel
theorem dX11_goThrough_136 : decode cX11_goThrough 136 = .ok (.aload_n 0, 1) := by decide +kernel
theorem dX11_goThrough_137 : decode cX11_goThrough 137 = .ok (.iload 8, 2) := by decide +kernel
theorem dX11_goThrough_139 : decode cX11_goThrough 139 = .ok (.aload_n 0, 1) := by decide +kernel
theorem dX11_goThrough_140 : decode cX11_goThrough 140 = .ok (.getfield 13, 3) := by decide +kernel
theorem dX11_goThrough_143 : decode cX11_goThrough 143 = .ok (.iconst 3, 1) := by decide +kernel
theorem dX11_goThrough_144 : decode cX11_goThrough 144 = .ok (.iaload, 1) := by decide +kernel
theorem dX11_goThrough_145 : decode cX11_goThrough 145 = .ok (.invokevirtual 156, 3) := by decide +kernel
theorem dX11_goThrough_148 : decode cX11_goThrough 148 = .ok (.iinc 7 1, 3) := by decide +kernel
theorem dX11_goThrough_151 : decode cX11_goThrough 151 = .ok (.goto (-86), 3) := by decide +kernel
theorem dX11_goThrough_154 : decode cX11_goThrough 154 = .ok (.iconst 0, 1) := by decide +kernel
theorem dX11_goThrough_155 : decode cX11_goThrough 155 = .ok (.istore 7, 2) := by decide +kernel
theorem dX11_goThrough_157 : decode cX11_goThrough 157 = .ok (.iload 7, 2) := by decide +kernel
theorem dX11_goThrough_159 : decode cX11_goThrough 159 = .ok (.aload_n 0, 1) := by decide +kernel
theorem dX11_goThrough_160 : decode cX11_goThrough 160 = .ok (.getfield 13, 3) := by decide +kernel
theorem dX11_goThrough_163 : decode cX11_goThrough 163 = .ok (.iconst 0, 1) := by decide +kernel
theorem dX11_goThrough_164 : decode cX11_goThrough 164 = .ok (.iaload, 1) := by decide +kernel
theorem dX11_goThrough_165 : decode cX11_goThrough 165 = .ok (.if_icmp .ge 54, 3) := by decide +kernel
theorem dX11_goThrough_168 : decode cX11_goThrough 168 = .ok (.iload 5, 2) := by decide +kernel
theorem dX11_goThrough_170 : decode cX11_goThrough 170 = .ok (.ifCond .eq 40, 3) := by decide +kernel
theorem dX11_goThrough_173 : decode cX11_goThrough 173 = .ok (.aload_n 0, 1) := by decide +kernel
theorem dX11_goThrough_174 : decode cX11_goThrough 174 = .ok (.getfield 116, 3) := by decide +kernel
theorem dX11_goThrough_177 : decode cX11_goThrough 177 = .ok (.iload 7, 2) := by decide +kernel
theorem dX11_goThrough_179 : decode cX11_goThrough 179 = .ok (.ishr, 1) := by decide +kernel
theorem dX11_goThrough_180 : decode cX11_goThrough 180 = .ok (.iconst 1, 1) := by decide +kernel
theorem dX11_goThrough_181 : decode cX11_goThrough 181 = .ok (.iand, 1) := by decide +kernel
theorem dX11_goThrough_182 : decode cX11_goThrough 182 = .ok (.ifCond .eq 24, 3) := by decide +kernel
theorem dX11_goThrough_185 : decode cX11_goThrough 185 = .ok (.aload_n 0, 1) := by decide +kernel
theorem dX11_goThrough_186 : decode cX11_goThrough 186 = .ok (.getfield 19, 3) := by decide +kernel
theorem dX11_goThrough_189 : decode cX11_goThrough 189 = .ok (.iconst 3, 1) := by decide +kernel
theorem dX11_goThrough_190 : decode cX11_goThrough 190 = .ok (.iconst 2, 1) := by decide +kernel
theorem dX11_goThrough_191 : decode cX11_goThrough 191 = .ok (.iload 7, 2) := by decide +kernel
theorem dX11_goThrough_193 : decode cX11_goThrough 193 = .ok (.imul, 1) := by decide +kernel
theorem dX11_goThrough_194 : decode cX11_goThrough 194 = .ok (.iadd, 1) := by decide +kernel
theorem dX11_goThrough_195 : decode cX11_goThrough 195 = .ok (.iaload, 1) := by decide +kernel
theorem dX11_goThrough_196 : decode cX11_goThrough 196 = .ok (.aload_n 0, 1) := by decide +kernel
theorem dX11_goThrough_197 : decode cX11_goThrough 197 = .ok (.getfield 46, 3) := by decide +kernel
theorem dX11_goThrough_200 : decode cX11_goThrough 200 = .ok (.iload 7, 2) := by decide +kernel
theorem dX11_goThrough_202 : decode cX11_goThrough 202 = .ok (.iaload, 1) := by decide +kernel
theorem dX11_goThrough_203 : decode cX11_goThrough 203 = .ok (.if_icmp .ne 7, 3) := by decide +kernel
theorem dX11_goThrough_206 : decode cX11_goThrough 206 = .ok (.iconst 1, 1) := by decide +kernel
theorem dX11_goThrough_207 : decode cX11_goThrough 207 = .ok (.goto 4, 3) := by decide +kernel
theorem dX11_goThrough_210 : decode cX11_goThrough 210 = .ok (.iconst 0, 1) := by decide +kernel
theorem dX11_goThrough_211 : decode cX11_goThrough 211 = .ok (.istore 5, 2) := by decide +kernel
theorem dX11_goThrough_213 : decode cX11_goThrough 213 = .ok (.iinc 7 1, 3) := by decide +kernel
theorem dX11_goThrough_216 : decode cX11_goThrough 216 = .ok (.goto (-59), 3) := by decide +kernel
theorem dX11_goThrough_219 : decode cX11_goThrough 219 = .ok (.aload_n 0, 1) := by decide +kernel
theorem dX11_goThrough_220 : decode cX11_goThrough 220 = .ok (.invokevirtual 201, 3) := by decide +kernel
theorem dX11_goThrough_223 : decode cX11_goThrough 223 = .ok (.aload_n 0, 1) := by decide +kernel
theorem dX11_goThrough_224 : decode cX11_goThrough 224 = .ok (.iload 5, 2) := by decide +kernel
theorem dX11_goThrough_226 : decode cX11_goThrough 226 = .ok (.ifCond .eq 14, 3) := by decide +kernel
theorem dX11_goThrough_229 : decode cX11_goThrough 229 = .ok (.aload_n 0, 1) := by decide +kernel
theorem dX11_goThrough_230 : decode cX11_goThrough 230 = .ok (.getfield 227, 3) := by decide +kernel
theorem dX11_goThrough_233 : decode cX11_goThrough 233 = .ok (.ifCond .ne 7, 3) := by decide +kernel
theorem dX11_goThrough_236 : decode cX11_goThrough 236 = .ok (.iload_n 3, 1) := by decide +kernel
theorem dX11_goThrough_237 : decode cX11_goThrough 237 = .ok (.goto 7, 3) := by decide +kernel
theorem dX11_goThrough_240 : decode cX11_goThrough 240 = .ok (.aload_n 0, 1) := by decide +kernel
theorem dX11_goThrough_241 : decode cX11_goThrough 241 = .ok (.getfield 229, 3) := by decide +kernel
theorem dX11_goThrough_244 : decode cX11_goThrough 244 = .ok (.putfield 229, 3) := by decide +kernel
theorem dX11_goThrough_247 : decode cX11_goThrough 247 = .ok (.aload_n 0, 1) := by decide +kernel
theorem dX11_goThrough_248 : decode cX11_goThrough 248 = .ok (.dup, 1) := by decide +kernel
theorem dX11_goThrough_249 : decode cX11_goThrough 249 = .ok (.getfield 232, 3) := by decide +kernel
theorem dX11_goThrough_252 : decode cX11_goThrough 252 = .ok (.iload 5, 2) := by decide +kernel
theorem dX11_goThrough_254 : decode cX11_goThrough 254 = .ok (.ifCond .eq 8, 3) := by decide +kernel
theorem dX11_goThrough_257 : decode cX11_goThrough 257 = .ok (.iload 4, 2) := by decide +kernel
theorem dX11_goThrough_259 : decode cX11_goThrough 259 = .ok (.goto 4, 3) := by decide +kernel
theorem dX11_goThrough_262 : decode cX11_goThrough 262 = .ok (.iconst (-1), 1) := by decide +kernel
theorem dX11_goThrough_263 : decode cX11_goThrough 263 = .ok (.iand, 1) := by decide +kernel
theorem dX11_goThrough_264 : decode cX11_goThrough 264 = .ok (.putfield 232, 3) := by decide +kernel
theorem dX11_goThrough_267 : decode cX11_goThrough 267 = .ok (.aload_n 0, 1) := by decide +kernel
theorem dX11_goThrough_268 : decode cX11_goThrough 268 = .ok (.dup, 1) := by decide +kernel
theorem dX11_goThrough_269 : decode cX11_goThrough 269 = .ok (.getfield 227, 3) := by decide +kernel
theorem dX11_goThrough_272 : decode cX11_goThrough 272 = .ok (.iload 5, 2) := by decide +kernel
theorem dX11_goThrough_274 : decode cX11_goThrough 274 = .ok (.ifCond .eq 7, 3) := by decide +kernel
theorem dX11_goThrough_277 : decode cX11_goThrough 277 = .ok (.iconst 1, 1) := by decide +kernel
theorem dX11_goThrough_278 : decode cX11_goThrough 278 = .ok (.goto 4, 3) := by decide +kernel
theorem dX11_goThrough_281 : decode cX11_goThrough 281 = .ok (.iconst 0, 1) := by decide +kernel
theorem dX11_goThrough_282 : decode cX11_goThrough 282 = .ok (.iadd, 1) := by decide +kernel
theorem dX11_goThrough_283 : decode cX11_goThrough 283 = .ok (.putfield 227, 3) := by decide +kernel
theorem dX11_goThrough_286 : decode cX11_goThrough 286 = .ok (.iinc 3 1, 3) := by decide +kernel
theorem dX11_goThrough_289 : decode cX11_goThrough 289 = .ok (.goto (-241), 3) := by decide +kernel
theorem dX11_goThrough_292 : decode cX11_goThrough 292 = .ok (.return_, 1) := by decide +kernel
set_option maxRecDepth 20000 in
theorem ggX11_rows_X11_in : GoodIn wsX11_rows wsX11_in := goodIn_r _ [10] (by decide +kernel) (by decide +kernel)
set_option maxRecDepth 20000 in
theorem gX11_rows_X11_in : GoodIn wsX11_rows (va_wsS RX11 67 yX11_in wsX11_in) := goodIn_app (goodIn_of _ (by decide +kernel)) ggX11_rows_X11_in
set_option maxRecDepth 20000 in
theorem ggX11_rows_X11_goThrough : GoodIn wsX11_rows wsX11_goThrough := goodIn_r _ [14, 3, 5, 6, 15, 16, 17, 18, 19, 20, 21, 9, 22, 23, 24, 25, 26, 27, 28, 29, 30, 31, 32, 33, 34, 35, 36, 37, 38, 39, 40, 41, 42, 43, 44, 45, 46, 47, 48, 49, 50, 51, 52, 53, 54, 55, 56, 57, 58, 59, 60, 61, 62, 63, 64, 65, 66] (by decide +kernel) (by decide +kernel)
set_option maxRecDepth 20000 in
theorem gX11_rows_X11_goThrough : GoodIn wsX11_rows (wsV RX11 237 RX11 yX11_goThrough wsX11_goThrough) := goodIn_app (goodIn_of _ (by decide +kernel)) ggX11_rows_X11_goThrough
theorem dX11_rows_0 : decode cX11_rows 0 = .ok (.iload_n 1, 1) := by decide +kernel
theorem dX11_rows_1 : decode cX11_rows 1 = .ok (.i2l, 1) := by decide +kernel
theorem dX11_rows_2 : decode cX11_rows 2 = .ok (.lconst 1, 1) := by decide +kernel
theorem dX11_rows_3 : decode cX11_rows 3 = .ok (.ldc2_w 235, 3) := by decide +kernel
theorem dX11_rows_6 : decode cX11_rows 6 = .ok (.invokestatic 67, 3) := by decide +kernel
theorem dX11_rows_9 : decode cX11_rows 9 = .ok (.ifCond .ne 6, 3) := by decide +kernel
theorem dX11_rows_12 : decode cX11_rows 12 = .ok (.ldc 71, 2) := by decide +kernel
theorem dX11_rows_14 : decode cX11_rows 14 = .ok (.ireturn, 1) := by decide +kernel
theorem dX11_rows_15 : decode cX11_rows 15 = .ok (.aload_n 0, 1) := by decide +kernel
theorem dX11_rows_16 : decode cX11_rows 16 = .ok (.getfield 13, 3) := by decide +kernel
theorem dX11_rows_19 : decode cX11_rows 19 = .ok (.iconst 1, 1) := by decide +kernel
theorem dX11_rows_20 : decode cX11_rows 20 = .ok (.iaload, 1) := by decide +kernel
theorem dX11_rows_21 : decode cX11_rows 21 = .ok (.ifCond .ne 6, 3) := by decide +kernel
theorem dX11_rows_24 : decode cX11_rows 24 = .ok (.ldc 151, 2) := by decide +kernel
theorem dX11_rows_26 : decode cX11_rows 26 = .ok (.ireturn, 1) := by decide +kernel
theorem dX11_rows_27 : decode cX11_rows 27 = .ok (.aload_n 0, 1) := by decide +kernel
theorem dX11_rows_28 : decode cX11_rows 28 = .ok (.iload_n 1, 1) := by decide +kernel
theorem dX11_rows_29 : decode cX11_rows 29 = .ok (.invokevirtual 237, 3) := by decide +kernel
theorem dX11_rows_32 : decode cX11_rows 32 = .ok (.iload_n 2, 1) := by decide +kernel
theorem dX11_rows_33 : decode cX11_rows 33 = .ok (.iconst (-1), 1) := by decide +kernel
theorem dX11_rows_34 : decode cX11_rows 34 = .ok (.if_icmp .ne 8, 3) := by decide +kernel
theorem dX11_rows_37 : decode cX11_rows 37 = .ok (.aload_n 0, 1) := by decide +kernel
theorem dX11_rows_38 : decode cX11_rows 38 = .ok (.getfield 227, 3) := by decide +kernel
theorem dX11_rows_41 : decode cX11_rows 41 = .ok (.ireturn, 1) := by decide +kernel
theorem dX11_rows_42 : decode cX11_rows 42 = .ok (.aload_n 0, 1) := by decide +kernel
theorem dX11_rows_43 : decode cX11_rows 43 = .ok (.getfield 227, 3) := by decide +kernel
theorem dX11_rows_46 : decode cX11_rows 46 = .ok (.ifCond .eq 16, 3) := by decide +kernel
theorem dX11_rows_49 : decode cX11_rows 49 = .ok (.iload_n 2, 1) := by decide +kernel
theorem dX11_rows_50 : decode cX11_rows 50 = .ok (.i2l, 1) := by decide +kernel
theorem dX11_rows_51 : decode cX11_rows 51 = .ok (.lconst 0, 1) := by decide +kernel
theorem dX11_rows_52 : decode cX11_rows 52 = .ok (.iload_n 1, 1) := by decide +kernel
theorem dX11_rows_53 : decode cX11_rows 53 = .ok (.iconst 1, 1) := by decide +kernel
theorem dX11_rows_54 : decode cX11_rows 54 = .ok (.isub, 1) := by decide +kernel
theorem dX11_rows_55 : decode cX11_rows 55 = .ok (.i2l, 1) := by decide +kernel
theorem dX11_rows_56 : decode cX11_rows 56 = .ok (.invokestatic 67, 3) := by decide +kernel
theorem dX11_rows_59 : decode cX11_rows 59 = .ok (.ifCond .ne 5, 3) := by decide +kernel
theorem dX11_rows_62 : decode cX11_rows 62 = .ok (.iconst (-1), 1) := by decide +kernel
theorem dX11_rows_63 : decode cX11_rows 63 = .ok (.ireturn, 1) := by decide +kernel
theorem dX11_rows_64 : decode cX11_rows 64 = .ok (.aload_n 0, 1) := by decide +kernel
theorem dX11_rows_65 : decode cX11_rows 65 = .ok (.getfield 229, 3) := by decide +kernel
theorem dX11_rows_68 : decode cX11_rows 68 = .ok (.istore_n 3, 1) := by decide +kernel
theorem dX11_rows_69 : decode cX11_rows 69 = .ok (.iload_n 1, 1) := by decide +kernel
theorem dX11_rows_70 : decode cX11_rows 70 = .ok (.iconst 1, 1) := by decide +kernel
theorem dX11_rows_71 : decode cX11_rows 71 = .ok (.isub, 1) := by decide +kernel
theorem dX11_rows_72 : decode cX11_rows 72 = .ok (.istore 4, 2) := by decide +kernel
theorem dX11_rows_74 : decode cX11_rows 74 = .ok (.iload 4, 2) := by decide +kernel
theorem dX11_rows_76 : decode cX11_rows 76 = .ok (.iload_n 2, 1) := by decide +kernel
theorem dX11_rows_77 : decode cX11_rows 77 = .ok (.if_icmp .le 18, 3) := by decide +kernel
theorem dX11_rows_80 : decode cX11_rows 80 = .ok (.iload_n 3, 1) := by decide +kernel
theorem dX11_rows_81 : decode cX11_rows 81 = .ok (.aload_n 0, 1) := by decide +kernel
theorem dX11_rows_82 : decode cX11_rows 82 = .ok (.getfield 13, 3) := by decide +kernel
theorem dX11_rows_85 : decode cX11_rows 85 = .ok (.iconst 1, 1) := by decide +kernel
theorem dX11_rows_86 : decode cX11_rows 86 = .ok (.iaload, 1) := by decide +kernel
theorem dX11_rows_87 : decode cX11_rows 87 = .ok (.idiv, 1) := by decide +kernel
theorem dX11_rows_88 : decode cX11_rows 88 = .ok (.istore_n 3, 1) := by decide +kernel
theorem dX11_rows_89 : decode cX11_rows 89 = .ok (.iinc 4 (-1), 3) := by decide +kernel
theorem dX11_rows_92 : decode cX11_rows 92 = .ok (.goto (-18), 3) := by decide +kernel
theorem dX11_rows_95 : decode cX11_rows 95 = .ok (.iload_n 3, 1) := by decide +kernel
theorem dX11_rows_96 : decode cX11_rows 96 = .ok (.aload_n 0, 1) := by decide +kernel
theorem dX11_rows_97 : decode cX11_rows 97 = .ok (.getfield 13, 3) := by decide +kernel
theorem dX11_rows_100 : decode cX11_rows 100 = .ok (.iconst 1, 1) := by decide +kernel
theorem dX11_rows_101 : decode cX11_rows 101 = .ok (.iaload, 1) := by decide +kernel
theorem dX11_rows_102 : decode cX11_rows 102 = .ok (.irem, 1) := by decide +kernel
theorem dX11_rows_103 : decode cX11_rows 103 = .ok (.ireturn, 1) := by decide +kernel
set_option maxRecDepth 20000 in
theorem ggX11_sure_X11_in : GoodIn wsX11_sure wsX11_in := goodIn_r _ [10] (by decide +kernel) (by decide +kernel)
set_option maxRecDepth 20000 in
theorem gX11_sure_X11_in : GoodIn wsX11_sure (va_wsS RX11 67 yX11_in wsX11_in) := goodIn_app (goodIn_of _ (by decide +kernel)) ggX11_sure_X11_in
set_option maxRecDepth 20000 in
theorem ggX11_sure_X11_goThrough : GoodIn wsX11_sure wsX11_goThrough := goodIn_r _ [14, 3, 5, 15, 6, 16, 17, 18, 19, 20, 21, 9, 22, 23, 24, 25, 26, 27, 28, 29, 30, 31, 32, 33, 34, 35, 36, 37, 38, 39, 40, 41, 42, 43, 44, 45, 46, 47, 48, 49, 50, 51, 52, 53, 54, 55, 56, 57, 58, 59, 60, 61, 62, 63, 64, 65, 66] (by decide +kernel) (by decide +kernel)
set_option maxRecDepth 20000 in
theorem gX11_sure_X11_goThrough : GoodIn wsX11_sure (wsV RX11 237 RX11 yX11_goThrough wsX11_goThrough) := goodIn_app (goodIn_of _ (by decide +kernel)) ggX11_sure_X11_goThrough
theorem dX11_sure_0 : decode cX11_sure 0 = .ok (.iload_n 1, 1) := by decide +kernel
theorem dX11_sure_1 : decode cX11_sure 1 = .ok (.i2l, 1) := by decide +kernel
theorem dX11_sure_2 : decode cX11_sure 2 = .ok (.lconst 1, 1) := by decide +kernel
theorem dX11_sure_3 : decode cX11_sure 3 = .ok (.ldc2_w 235, 3) := by decide +kernel
theorem dX11_sure_6 : decode cX11_sure 6 = .ok (.invokestatic 67, 3) := by decide +kernel
theorem dX11_sure_9 : decode cX11_sure 9 = .ok (.ifCond .ne 6, 3) := by decide +kernel
theorem dX11_sure_12 : decode cX11_sure 12 = .ok (.ldc 71, 2) := by decide +kernel
theorem dX11_sure_14 : decode cX11_sure 14 = .ok (.ireturn, 1) := by decide +kernel
theorem dX11_sure_15 : decode cX11_sure 15 = .ok (.aload_n 0, 1) := by decide +kernel
theorem dX11_sure_16 : decode cX11_sure 16 = .ok (.getfield 13, 3) := by decide +kernel
theorem dX11_sure_19 : decode cX11_sure 19 = .ok (.iconst 1, 1) := by decide +kernel
theorem dX11_sure_20 : decode cX11_sure 20 = .ok (.iaload, 1) := by decide +kernel
theorem dX11_sure_21 : decode cX11_sure 21 = .ok (.ifCond .ne 6, 3) := by decide +kernel
theorem dX11_sure_24 : decode cX11_sure 24 = .ok (.ldc 151, 2) := by decide +kernel
theorem dX11_sure_26 : decode cX11_sure 26 = .ok (.ireturn, 1) := by decide +kernel
theorem dX11_sure_27 : decode cX11_sure 27 = .ok (.aload_n 0, 1) := by decide +kernel
theorem dX11_sure_28 : decode cX11_sure 28 = .ok (.iload_n 1, 1) := by decide +kernel
theorem dX11_sure_29 : decode cX11_sure 29 = .ok (.invokevirtual 237, 3) := by decide +kernel
theorem dX11_sure_32 : decode cX11_sure 32 = .ok (.aload_n 0, 1) := by decide +kernel
theorem dX11_sure_33 : decode cX11_sure 33 = .ok (.getfield 227, 3) := by decide +kernel
theorem dX11_sure_36 : decode cX11_sure 36 = .ok (.ifCond .ne 7, 3) := by decide +kernel
theorem dX11_sure_39 : decode cX11_sure 39 = .ok (.iconst 0, 1) := by decide +kernel
theorem dX11_sure_40 : decode cX11_sure 40 = .ok (.goto 7, 3) := by decide +kernel
theorem dX11_sure_43 : decode cX11_sure 43 = .ok (.aload_n 0, 1) := by decide +kernel
theorem dX11_sure_44 : decode cX11_sure 44 = .ok (.getfield 232, 3) := by decide +kernel
theorem dX11_sure_47 : decode cX11_sure 47 = .ok (.ireturn, 1) := by decide +kernel
set_option maxRecDepth 20000 in
theorem ggX11_write_X11_isTicket : GoodIn wsX11_write wsX11_isTicket := goodIn_r _ [9, 10, 11, 12, 8, 13, 14, 15, 16, 17, 18, 19, 20, 21, 22, 23, 24, 25, 26, 27, 28, 29, 30, 31, 32, 33, 34, 35, 36, 37, 38, 39, 40] (by decide +kernel) (by decide +kernel)
set_option maxRecDepth 20000 in
theorem gX11_write_X11_isTicket : GoodIn wsX11_write (wsV RX11 146 RX11 yX11_isTicket wsX11_isTicket) := goodIn_app (goodIn_of _ (by decide +kernel)) ggX11_write_X11_isTicket
theorem dX11_write_0 : decode cX11_write 0 = .ok (.aload_n 0, 1) := by decide +kernel
theorem dX11_write_1 : decode cX11_write 1 = .ok (.iload_n 1, 1) := by decide +kernel
theorem dX11_write_2 : decode cX11_write 2 = .ok (.invokevirtual 146, 3) := by decide +kernel
theorem dX11_write_5 : decode cX11_write 5 = .ok (.ifCond .ne 6, 3) := by decide +kernel
theorem dX11_write_8 : decode cX11_write 8 = .ok (.ldc 139, 2) := by decide +kernel
theorem dX11_write_10 : decode cX11_write 10 = .ok (.ireturn, 1) := by decide +kernel
theorem dX11_write_11 : decode cX11_write 11 = .ok (.aload_n 0, 1) := by decide +kernel
theorem dX11_write_12 : decode cX11_write 12 = .ok (.getfield 113, 3) := by decide +kernel
theorem dX11_write_15 : decode cX11_write 15 = .ok (.bipush 20, 2) := by decide +kernel
theorem dX11_write_17 : decode cX11_write 17 = .ok (.if_icmp .ne 6, 3) := by decide +kernel
theorem dX11_write_20 : decode cX11_write 20 = .ok (.ldc 75, 2) := by decide +kernel
theorem dX11_write_22 : decode cX11_write 22 = .ok (.ireturn, 1) := by decide +kernel
theorem dX11_write_23 : decode cX11_write 23 = .ok (.aload_n 0, 1) := by decide +kernel
theorem dX11_write_24 : decode cX11_write 24 = .ok (.getfield 49, 3) := by decide +kernel
theorem dX11_write_27 : decode cX11_write 27 = .ok (.aload_n 0, 1) := by decide +kernel
theorem dX11_write_28 : decode cX11_write 28 = .ok (.getfield 113, 3) := by decide +kernel
theorem dX11_write_31 : decode cX11_write 31 = .ok (.iload_n 1, 1) := by decide +kernel
theorem dX11_write_32 : decode cX11_write 32 = .ok (.iastore, 1) := by decide +kernel
theorem dX11_write_33 : decode cX11_write 33 = .ok (.aload_n 0, 1) := by decide +kernel
theorem dX11_write_34 : decode cX11_write 34 = .ok (.dup, 1) := by decide +kernel
theorem dX11_write_35 : decode cX11_write 35 = .ok (.getfield 113, 3) := by decide +kernel
theorem dX11_write_38 : decode cX11_write 38 = .ok (.iconst 1, 1) := by decide +kernel
theorem dX11_write_39 : decode cX11_write 39 = .ok (.iadd, 1) := by decide +kernel
theorem dX11_write_40 : decode cX11_write 40 = .ok (.putfield 113, 3) := by decide +kernel
theorem dX11_write_43 : decode cX11_write 43 = .ok (.aload_n 0, 1) := by decide +kernel
theorem dX11_write_44 : decode cX11_write 44 = .ok (.getfield 113, 3) := by decide +kernel
theorem dX11_write_47 : decode cX11_write 47 = .ok (.ireturn, 1) := by decide +kernel
set_option maxRecDepth 20000 in
theorem ggX11_reads_X11_draws : GoodIn wsX11_reads wsX11_draws := goodIn_r _ [9, 2, 4, 10, 11, 12, 8, 13, 14, 15, 16, 17, 18, 19, 20, 21, 22, 23, 24, 25, 26, 27, 28, 29, 30, 31, 32, 33, 34, 35, 36, 37, 38, 39, 40, 41, 42, 43, 44] (by decide +kernel) (by decide +kernel)
set_option maxRecDepth 20000 in
theorem gX11_reads_X11_draws : GoodIn wsX11_reads (wsV RX11 156 RX11 yX11_draws wsX11_draws) := goodIn_app (goodIn_of _ (by decide +kernel)) ggX11_reads_X11_draws
theorem dX11_reads_0 : decode cX11_reads 0 = .ok (.iconst 0, 1) := by decide +kernel
theorem dX11_reads_1 : decode cX11_reads 1 = .ok (.istore_n 1, 1) := by decide +kernel
theorem dX11_reads_2 : decode cX11_reads 2 = .ok (.iload_n 1, 1) := by decide +kernel
theorem dX11_reads_3 : decode cX11_reads 3 = .ok (.aload_n 0, 1) := by decide +kernel
theorem dX11_reads_4 : decode cX11_reads 4 = .ok (.getfield 113, 3) := by decide +kernel
theorem dX11_reads_7 : decode cX11_reads 7 = .ok (.if_icmp .ge 45, 3) := by decide +kernel
theorem dX11_reads_10 : decode cX11_reads 10 = .ok (.aload_n 0, 1) := by decide +kernel
theorem dX11_reads_11 : decode cX11_reads 11 = .ok (.getfield 19, 3) := by decide +kernel
theorem dX11_reads_14 : decode cX11_reads 14 = .ok (.iconst 2, 1) := by decide +kernel
theorem dX11_reads_15 : decode cX11_reads 15 = .ok (.iaload, 1) := by decide +kernel
theorem dX11_reads_16 : decode cX11_reads 16 = .ok (.aload_n 0, 1) := by decide +kernel
theorem dX11_reads_17 : decode cX11_reads 17 = .ok (.getfield 49, 3) := by decide +kernel
theorem dX11_reads_20 : decode cX11_reads 20 = .ok (.iload_n 1, 1) := by decide +kernel
theorem dX11_reads_21 : decode cX11_reads 21 = .ok (.iaload, 1) := by decide +kernel
theorem dX11_reads_22 : decode cX11_reads 22 = .ok (.ishr, 1) := by decide +kernel
theorem dX11_reads_23 : decode cX11_reads 23 = .ok (.iconst 1, 1) := by decide +kernel
theorem dX11_reads_24 : decode cX11_reads 24 = .ok (.iand, 1) := by decide +kernel
theorem dX11_reads_25 : decode cX11_reads 25 = .ok (.ifCond .ne 5, 3) := by decide +kernel
theorem dX11_reads_28 : decode cX11_reads 28 = .ok (.iload_n 1, 1) := by decide +kernel
theorem dX11_reads_29 : decode cX11_reads 29 = .ok (.ireturn, 1) := by decide +kernel
theorem dX11_reads_30 : decode cX11_reads 30 = .ok (.aload_n 0, 1) := by decide +kernel
theorem dX11_reads_31 : decode cX11_reads 31 = .ok (.aload_n 0, 1) := by decide +kernel
theorem dX11_reads_32 : decode cX11_reads 32 = .ok (.getfield 49, 3) := by decide +kernel
theorem dX11_reads_35 : decode cX11_reads 35 = .ok (.iload_n 1, 1) := by decide +kernel
theorem dX11_reads_36 : decode cX11_reads 36 = .ok (.iaload, 1) := by decide +kernel
theorem dX11_reads_37 : decode cX11_reads 37 = .ok (.aload_n 0, 1) := by decide +kernel
theorem dX11_reads_38 : decode cX11_reads 38 = .ok (.getfield 13, 3) := by decide +kernel
theorem dX11_reads_41 : decode cX11_reads 41 = .ok (.iconst 3, 1) := by decide +kernel
theorem dX11_reads_42 : decode cX11_reads 42 = .ok (.iaload, 1) := by decide +kernel
theorem dX11_reads_43 : decode cX11_reads 43 = .ok (.invokevirtual 156, 3) := by decide +kernel
theorem dX11_reads_46 : decode cX11_reads 46 = .ok (.iinc 1 1, 3) := by decide +kernel
theorem dX11_reads_49 : decode cX11_reads 49 = .ok (.goto (-47), 3) := by decide +kernel
theorem dX11_reads_52 : decode cX11_reads 52 = .ok (.iconst (-1), 1) := by decide +kernel
theorem dX11_reads_53 : decode cX11_reads 53 = .ok (.ireturn, 1) := by decide +kernel
set_option maxRecDepth 20000 in
theorem ggX11_judge_X11_asides : GoodIn wsX11_judge wsX11_asides := goodIn_r _ [5, 6, 7, 31, 32, 33, 34, 35, 36, 37, 38, 39, 40, 41, 42, 43, 44, 45, 46, 47, 48, 49, 50, 51, 52, 53, 54, 55, 56, 57] (by decide +kernel) (by decide +kernel)
set_option maxRecDepth 20000 in
theorem gX11_judge_X11_asides : GoodIn wsX11_judge (wsV RX11 206 RX11 yX11_asides wsX11_asides) := goodIn_app (goodIn_of _ (by decide +kernel)) ggX11_judge_X11_asides
set_option maxRecDepth 20000 in
theorem ggX11_judge_X11_reads : GoodIn wsX11_judge wsX11_reads := goodIn_r _ [11, 12, 7, 13, 14, 15, 16, 17, 4, 18, 19, 20, 21, 22, 23, 24, 25, 26, 31, 32, 33, 34, 35, 36, 37, 38, 39, 40, 41, 42, 43, 44, 45, 46, 47, 48, 49, 50, 51, 52, 53, 54, 55, 56, 57] (by decide +kernel) (by decide +kernel)
set_option maxRecDepth 20000 in
theorem gX11_judge_X11_reads : GoodIn wsX11_judge (wsV RX11 241 RX11 yX11_reads wsX11_reads) := goodIn_app (goodIn_of _ (by decide +kernel)) ggX11_judge_X11_reads
set_option maxRecDepth 20000 in
theorem ggX11_judge_X11_backs : GoodIn wsX11_judge wsX11_backs := goodIn_r _ [30, 7, 6, 31, 32, 33, 34, 35, 36, 37, 38, 39, 40, 41, 42, 43, 44, 45, 46, 47, 48, 49, 50, 51, 52, 53, 54, 55, 56, 57] (by decide +kernel) (by decide +kernel)
set_option maxRecDepth 20000 in
theorem gX11_judge_X11_backs : GoodIn wsX11_judge (wsV RX11 201 RX11 yX11_backs wsX11_backs) := goodIn_app (goodIn_of _ (by decide +kernel)) ggX11_judge_X11_backs
theorem dX11_judge_0 : decode cX11_judge 0 = .ok (.aload_n 0, 1) := by decide +kernel
theorem dX11_judge_1 : decode cX11_judge 1 = .ok (.invokevirtual 206, 3) := by decide +kernel
theorem dX11_judge_4 : decode cX11_judge 4 = .ok (.aload_n 0, 1) := by decide +kernel
theorem dX11_judge_5 : decode cX11_judge 5 = .ok (.invokevirtual 241, 3) := by decide +kernel
theorem dX11_judge_8 : decode cX11_judge 8 = .ok (.istore_n 1, 1) := by decide +kernel
theorem dX11_judge_9 : decode cX11_judge 9 = .ok (.aload_n 0, 1) := by decide +kernel
theorem dX11_judge_10 : decode cX11_judge 10 = .ok (.invokevirtual 201, 3) := by decide +kernel
theorem dX11_judge_13 : decode cX11_judge 13 = .ok (.iload_n 1, 1) := by decide +kernel
theorem dX11_judge_14 : decode cX11_judge 14 = .ok (.ireturn, 1) := by decide +kernel
set_option maxRecDepth 20000 in
theorem ggX11_ageBy_X11_isPerson : GoodIn wsX11_ageBy wsX11_isPerson := goodIn_r _ [7, 8, 9, 10, 6, 11, 39, 40, 41, 42, 43, 44, 45, 46, 47, 48, 49, 50, 51, 52, 53, 54, 55, 56, 57, 58, 59, 60, 61, 62, 63, 64, 65] (by decide +kernel) (by decide +kernel)
set_option maxRecDepth 20000 in
theorem gX11_ageBy_X11_isPerson : GoodIn wsX11_ageBy (wsV RX11 135 RX11 yX11_isPerson wsX11_isPerson) := goodIn_app (goodIn_of _ (by decide +kernel)) ggX11_ageBy_X11_isPerson
set_option maxRecDepth 20000 in
theorem ggX11_ageBy_X11_asides : GoodIn wsX11_ageBy wsX11_asides := goodIn_r _ [15, 16, 2, 39, 40, 41, 42, 43, 44, 45, 46, 47, 48, 49, 50, 51, 52, 53, 54, 55, 56, 57, 58, 59, 60, 61, 62, 63, 64, 65] (by decide +kernel) (by decide +kernel)
set_option maxRecDepth 20000 in
theorem gX11_ageBy_X11_asides : GoodIn wsX11_ageBy (wsV RX11 206 RX11 yX11_asides wsX11_asides) := goodIn_app (goodIn_of _ (by decide +kernel)) ggX11_ageBy_X11_asides
set_option maxRecDepth 20000 in
theorem ggX11_ageBy_X11_reads : GoodIn wsX11_ageBy wsX11_reads := goodIn_r _ [20, 21, 2, 22, 8, 23, 24, 25, 6, 26, 27, 28, 29, 30, 31, 32, 33, 34, 39, 40, 41, 42, 43, 44, 45, 46, 47, 48, 49, 50, 51, 52, 53, 54, 55, 56, 57, 58, 59, 60, 61, 62, 63, 64, 65] (by decide +kernel) (by decide +kernel)
set_option maxRecDepth 20000 in
theorem gX11_ageBy_X11_reads : GoodIn wsX11_ageBy (wsV RX11 241 RX11 yX11_reads wsX11_reads) := goodIn_app (goodIn_of _ (by decide +kernel)) ggX11_ageBy_X11_reads
set_option maxRecDepth 20000 in
theorem ggX11_ageBy_X11_backs : GoodIn wsX11_ageBy wsX11_backs := goodIn_r _ [38, 2, 16, 39, 40, 41, 42, 43, 44, 45, 46, 47, 48, 49, 50, 51, 52, 53, 54, 55, 56, 57, 58, 59, 60, 61, 62, 63, 64, 65] (by decide +kernel) (by decide +kernel)
set_option maxRecDepth 20000 in
theorem gX11_ageBy_X11_backs : GoodIn wsX11_ageBy (wsV RX11 201 RX11 yX11_backs wsX11_backs) := goodIn_app (goodIn_of _ (by decide +kernel)) ggX11_ageBy_X11_backs
theorem dX11_ageBy_0 : decode cX11_ageBy 0 = .ok (.aload_n 0, 1) := by decide +kernel
theorem dX11_ageBy_1 : decode cX11_ageBy 1 = .ok (.iload_n 1, 1) := by decide +kernel
theorem dX11_ageBy_2 : decode cX11_ageBy 2 = .ok (.invokevirtual 135, 3) := by decide +kernel
theorem dX11_ageBy_5 : decode cX11_ageBy 5 = .ok (.ifCond .ne 6, 3) := by decide +kernel
theorem dX11_ageBy_8 : decode cX11_ageBy 8 = .ok (.ldc 139, 2) := by decide +kernel
theorem dX11_ageBy_10 : decode cX11_ageBy 10 = .ok (.ireturn, 1) := by decide +kernel
theorem dX11_ageBy_11 : decode cX11_ageBy 11 = .ok (.aload_n 0, 1) := by decide +kernel
theorem dX11_ageBy_12 : decode cX11_ageBy 12 = .ok (.invokevirtual 206, 3) := by decide +kernel
theorem dX11_ageBy_15 : decode cX11_ageBy 15 = .ok (.aload_n 0, 1) := by decide +kernel
theorem dX11_ageBy_16 : decode cX11_ageBy 16 = .ok (.invokevirtual 241, 3) := by decide +kernel
theorem dX11_ageBy_19 : decode cX11_ageBy 19 = .ok (.pop, 1) := by decide +kernel
theorem dX11_ageBy_20 : decode cX11_ageBy 20 = .ok (.aload_n 0, 1) := by decide +kernel
theorem dX11_ageBy_21 : decode cX11_ageBy 21 = .ok (.getfield 19, 3) := by decide +kernel
theorem dX11_ageBy_24 : decode cX11_ageBy 24 = .ok (.iconst 3, 1) := by decide +kernel
theorem dX11_ageBy_25 : decode cX11_ageBy 25 = .ok (.iconst 2, 1) := by decide +kernel
theorem dX11_ageBy_26 : decode cX11_ageBy 26 = .ok (.iload_n 1, 1) := by decide +kernel
theorem dX11_ageBy_27 : decode cX11_ageBy 27 = .ok (.imul, 1) := by decide +kernel
theorem dX11_ageBy_28 : decode cX11_ageBy 28 = .ok (.iadd, 1) := by decide +kernel
theorem dX11_ageBy_29 : decode cX11_ageBy 29 = .ok (.iaload, 1) := by decide +kernel
theorem dX11_ageBy_30 : decode cX11_ageBy 30 = .ok (.istore_n 2, 1) := by decide +kernel
theorem dX11_ageBy_31 : decode cX11_ageBy 31 = .ok (.aload_n 0, 1) := by decide +kernel
theorem dX11_ageBy_32 : decode cX11_ageBy 32 = .ok (.invokevirtual 201, 3) := by decide +kernel
theorem dX11_ageBy_35 : decode cX11_ageBy 35 = .ok (.iload_n 2, 1) := by decide +kernel
theorem dX11_ageBy_36 : decode cX11_ageBy 36 = .ok (.ireturn, 1) := by decide +kernel
set_option maxRecDepth 20000 in
theorem ggX11_tear_X11_many : GoodIn wsX11_tear wsX11_many := goodIn_r _ [7] (by decide +kernel) (by decide +kernel)
set_option maxRecDepth 20000 in
theorem gX11_tear_X11_many : GoodIn wsX11_tear (va_wsS RX11 185 yX11_many wsX11_many) := goodIn_app (goodIn_of _ (by decide +kernel)) ggX11_tear_X11_many
theorem dX11_tear_0 : decode cX11_tear 0 = .ok (.aload_n 0, 1) := by decide +kernel
theorem dX11_tear_1 : decode cX11_tear 1 = .ok (.getfield 110, 3) := by decide +kernel
theorem dX11_tear_4 : decode cX11_tear 4 = .ok (.aload_n 0, 1) := by decide +kernel
theorem dX11_tear_5 : decode cX11_tear 5 = .ok (.getfield 116, 3) := by decide +kernel
theorem dX11_tear_8 : decode cX11_tear 8 = .ok (.invokestatic 185, 3) := by decide +kernel
theorem dX11_tear_11 : decode cX11_tear 11 = .ok (.iadd, 1) := by decide +kernel
theorem dX11_tear_12 : decode cX11_tear 12 = .ok (.aload_n 0, 1) := by decide +kernel
theorem dX11_tear_13 : decode cX11_tear 13 = .ok (.getfield 113, 3) := by decide +kernel
theorem dX11_tear_16 : decode cX11_tear 16 = .ok (.iadd, 1) := by decide +kernel
theorem dX11_tear_17 : decode cX11_tear 17 = .ok (.istore_n 1, 1) := by decide +kernel
theorem dX11_tear_18 : decode cX11_tear 18 = .ok (.aload_n 0, 1) := by decide +kernel
theorem dX11_tear_19 : decode cX11_tear 19 = .ok (.iconst 0, 1) := by decide +kernel
theorem dX11_tear_20 : decode cX11_tear 20 = .ok (.putfield 110, 3) := by decide +kernel
theorem dX11_tear_23 : decode cX11_tear 23 = .ok (.aload_n 0, 1) := by decide +kernel
theorem dX11_tear_24 : decode cX11_tear 24 = .ok (.iconst 0, 1) := by decide +kernel
theorem dX11_tear_25 : decode cX11_tear 25 = .ok (.putfield 116, 3) := by decide +kernel
theorem dX11_tear_28 : decode cX11_tear 28 = .ok (.aload_n 0, 1) := by decide +kernel
theorem dX11_tear_29 : decode cX11_tear 29 = .ok (.iconst 0, 1) := by decide +kernel
theorem dX11_tear_30 : decode cX11_tear 30 = .ok (.putfield 113, 3) := by decide +kernel
theorem dX11_tear_33 : decode cX11_tear 33 = .ok (.iload_n 1, 1) := by decide +kernel
theorem dX11_tear_34 : decode cX11_tear 34 = .ok (.ireturn, 1) := by decide +kernel
theorem dX11_seed_0 : decode cX11_seed 0 = .ok (.iload_n 1, 1) := by decide +kernel
theorem dX11_seed_1 : decode cX11_seed 1 = .ok (.ifCond .ge 6, 3) := by decide +kernel
theorem dX11_seed_4 : decode cX11_seed 4 = .ok (.ldc 71, 2) := by decide +kernel
theorem dX11_seed_6 : decode cX11_seed 6 = .ok (.ireturn, 1) := by decide +kernel
theorem dX11_seed_7 : decode cX11_seed 7 = .ok (.aload_n 0, 1) := by decide +kernel
theorem dX11_seed_8 : decode cX11_seed 8 = .ok (.getfield 159, 3) := by decide +kernel
theorem dX11_seed_11 : decode cX11_seed 11 = .ok (.istore_n 2, 1) := by decide +kernel
theorem dX11_seed_12 : decode cX11_seed 12 = .ok (.aload_n 0, 1) := by decide +kernel
theorem dX11_seed_13 : decode cX11_seed 13 = .ok (.iload_n 1, 1) := by decide +kernel
theorem dX11_seed_14 : decode cX11_seed 14 = .ok (.putfield 159, 3) := by decide +kernel
theorem dX11_seed_17 : decode cX11_seed 17 = .ok (.iload_n 2, 1) := by decide +kernel
theorem dX11_seed_18 : decode cX11_seed 18 = .ok (.ireturn, 1) := by decide +kernel
set_option maxRecDepth 20000 in
theorem ggX11_keep_X11_in : GoodIn wsX11_keep wsX11_in := goodIn_r _ [9] (by decide +kernel) (by decide +kernel)
set_option maxRecDepth 20000 in
theorem gX11_keep_X11_in : GoodIn wsX11_keep (va_wsS RX11 67 yX11_in wsX11_in) := goodIn_app (goodIn_of _ (by decide +kernel)) ggX11_keep_X11_in
theorem dX11_keep_0 : decode cX11_keep 0 = .ok (.iload_n 1, 1) := by decide +kernel
theorem dX11_keep_1 : decode cX11_keep 1 = .ok (.i2l, 1) := by decide +kernel
theorem dX11_keep_2 : decode cX11_keep 2 = .ok (.lconst 0, 1) := by decide +kernel
theorem dX11_keep_3 : decode cX11_keep 3 = .ok (.lconst 1, 1) := by decide +kernel
theorem dX11_keep_4 : decode cX11_keep 4 = .ok (.invokestatic 67, 3) := by decide +kernel
theorem dX11_keep_7 : decode cX11_keep 7 = .ok (.ifCond .ne 6, 3) := by decide +kernel
theorem dX11_keep_10 : decode cX11_keep 10 = .ok (.ldc 139, 2) := by decide +kernel
theorem dX11_keep_12 : decode cX11_keep 12 = .ok (.ireturn, 1) := by decide +kernel
theorem dX11_keep_13 : decode cX11_keep 13 = .ok (.aload_n 0, 1) := by decide +kernel
theorem dX11_keep_14 : decode cX11_keep 14 = .ok (.getfield 52, 3) := by decide +kernel
theorem dX11_keep_17 : decode cX11_keep 17 = .ok (.bipush 41, 2) := by decide +kernel
theorem dX11_keep_19 : decode cX11_keep 19 = .ok (.iload_n 1, 1) := by decide +kernel
theorem dX11_keep_20 : decode cX11_keep 20 = .ok (.imul, 1) := by decide +kernel
theorem dX11_keep_21 : decode cX11_keep 21 = .ok (.iconst 1, 1) := by decide +kernel
theorem dX11_keep_22 : decode cX11_keep 22 = .ok (.iastore, 1) := by decide +kernel
theorem dX11_keep_23 : decode cX11_keep 23 = .ok (.aload_n 0, 1) := by decide +kernel
theorem dX11_keep_24 : decode cX11_keep 24 = .ok (.getfield 52, 3) := by decide +kernel
theorem dX11_keep_27 : decode cX11_keep 27 = .ok (.bipush 41, 2) := by decide +kernel
theorem dX11_keep_29 : decode cX11_keep 29 = .ok (.iload_n 1, 1) := by decide +kernel
theorem dX11_keep_30 : decode cX11_keep 30 = .ok (.imul, 1) := by decide +kernel
theorem dX11_keep_31 : decode cX11_keep 31 = .ok (.iconst 1, 1) := by decide +kernel
theorem dX11_keep_32 : decode cX11_keep 32 = .ok (.iadd, 1) := by decide +kernel
theorem dX11_keep_33 : decode cX11_keep 33 = .ok (.aload_n 0, 1) := by decide +kernel
theorem dX11_keep_34 : decode cX11_keep 34 = .ok (.getfield 159, 3) := by decide +kernel
theorem dX11_keep_37 : decode cX11_keep 37 = .ok (.iastore, 1) := by decide +kernel
theorem dX11_keep_38 : decode cX11_keep 38 = .ok (.iconst 0, 1) := by decide +kernel
theorem dX11_keep_39 : decode cX11_keep 39 = .ok (.istore_n 2, 1) := by decide +kernel
theorem dX11_keep_40 : decode cX11_keep 40 = .ok (.iload_n 2, 1) := by decide +kernel
theorem dX11_keep_41 : decode cX11_keep 41 = .ok (.bipush 39, 2) := by decide +kernel
theorem dX11_keep_43 : decode cX11_keep 43 = .ok (.if_icmp .ge 28, 3) := by decide +kernel
theorem dX11_keep_46 : decode cX11_keep 46 = .ok (.aload_n 0, 1) := by decide +kernel
theorem dX11_keep_47 : decode cX11_keep 47 = .ok (.getfield 52, 3) := by decide +kernel
theorem dX11_keep_50 : decode cX11_keep 50 = .ok (.bipush 41, 2) := by decide +kernel
theorem dX11_keep_52 : decode cX11_keep 52 = .ok (.iload_n 1, 1) := by decide +kernel
theorem dX11_keep_53 : decode cX11_keep 53 = .ok (.imul, 1) := by decide +kernel
theorem dX11_keep_54 : decode cX11_keep 54 = .ok (.iconst 2, 1) := by decide +kernel
theorem dX11_keep_55 : decode cX11_keep 55 = .ok (.iadd, 1) := by decide +kernel
theorem dX11_keep_56 : decode cX11_keep 56 = .ok (.iload_n 2, 1) := by decide +kernel
theorem dX11_keep_57 : decode cX11_keep 57 = .ok (.iadd, 1) := by decide +kernel
theorem dX11_keep_58 : decode cX11_keep 58 = .ok (.aload_n 0, 1) := by decide +kernel
theorem dX11_keep_59 : decode cX11_keep 59 = .ok (.getfield 19, 3) := by decide +kernel
theorem dX11_keep_62 : decode cX11_keep 62 = .ok (.iload_n 2, 1) := by decide +kernel
theorem dX11_keep_63 : decode cX11_keep 63 = .ok (.iaload, 1) := by decide +kernel
theorem dX11_keep_64 : decode cX11_keep 64 = .ok (.iastore, 1) := by decide +kernel
theorem dX11_keep_65 : decode cX11_keep 65 = .ok (.iinc 2 1, 3) := by decide +kernel
theorem dX11_keep_68 : decode cX11_keep 68 = .ok (.goto (-28), 3) := by decide +kernel
theorem dX11_keep_71 : decode cX11_keep 71 = .ok (.aload_n 0, 1) := by decide +kernel
theorem dX11_keep_72 : decode cX11_keep 72 = .ok (.iconst 0, 1) := by decide +kernel
theorem dX11_keep_73 : decode cX11_keep 73 = .ok (.putfield 119, 3) := by decide +kernel
theorem dX11_keep_76 : decode cX11_keep 76 = .ok (.iconst 1, 1) := by decide +kernel
theorem dX11_keep_77 : decode cX11_keep 77 = .ok (.ireturn, 1) := by decide +kernel
set_option maxRecDepth 20000 in
theorem ggX11_goBack_X11_in : GoodIn wsX11_goBack wsX11_in := goodIn_r _ [10] (by decide +kernel) (by decide +kernel)
set_option maxRecDepth 20000 in
theorem gX11_goBack_X11_in : GoodIn wsX11_goBack (va_wsS RX11 67 yX11_in wsX11_in) := goodIn_app (goodIn_of _ (by decide +kernel)) ggX11_goBack_X11_in
theorem dX11_goBack_0 : decode cX11_goBack 0 = .ok (.iload_n 1, 1) := by decide +kernel
theorem dX11_goBack_1 : decode cX11_goBack 1 = .ok (.i2l, 1) := by decide +kernel
theorem dX11_goBack_2 : decode cX11_goBack 2 = .ok (.lconst 0, 1) := by decide +kernel
theorem dX11_goBack_3 : decode cX11_goBack 3 = .ok (.lconst 1, 1) := by decide +kernel
theorem dX11_goBack_4 : decode cX11_goBack 4 = .ok (.invokestatic 67, 3) := by decide +kernel
theorem dX11_goBack_7 : decode cX11_goBack 7 = .ok (.ifCond .ne 6, 3) := by decide +kernel
theorem dX11_goBack_10 : decode cX11_goBack 10 = .ok (.ldc 139, 2) := by decide +kernel
theorem dX11_goBack_12 : decode cX11_goBack 12 = .ok (.ireturn, 1) := by decide +kernel
theorem dX11_goBack_13 : decode cX11_goBack 13 = .ok (.aload_n 0, 1) := by decide +kernel
theorem dX11_goBack_14 : decode cX11_goBack 14 = .ok (.getfield 52, 3) := by decide +kernel
theorem dX11_goBack_17 : decode cX11_goBack 17 = .ok (.bipush 41, 2) := by decide +kernel
theorem dX11_goBack_19 : decode cX11_goBack 19 = .ok (.iload_n 1, 1) := by decide +kernel
theorem dX11_goBack_20 : decode cX11_goBack 20 = .ok (.imul, 1) := by decide +kernel
theorem dX11_goBack_21 : decode cX11_goBack 21 = .ok (.iaload, 1) := by decide +kernel
theorem dX11_goBack_22 : decode cX11_goBack 22 = .ok (.ifCond .ne 6, 3) := by decide +kernel
theorem dX11_goBack_25 : decode cX11_goBack 25 = .ok (.ldc 151, 2) := by decide +kernel
theorem dX11_goBack_27 : decode cX11_goBack 27 = .ok (.ireturn, 1) := by decide +kernel
theorem dX11_goBack_28 : decode cX11_goBack 28 = .ok (.aload_n 0, 1) := by decide +kernel
theorem dX11_goBack_29 : decode cX11_goBack 29 = .ok (.aload_n 0, 1) := by decide +kernel
theorem dX11_goBack_30 : decode cX11_goBack 30 = .ok (.getfield 52, 3) := by decide +kernel
theorem dX11_goBack_33 : decode cX11_goBack 33 = .ok (.bipush 41, 2) := by decide +kernel
theorem dX11_goBack_35 : decode cX11_goBack 35 = .ok (.iload_n 1, 1) := by decide +kernel
theorem dX11_goBack_36 : decode cX11_goBack 36 = .ok (.imul, 1) := by decide +kernel
theorem dX11_goBack_37 : decode cX11_goBack 37 = .ok (.iconst 1, 1) := by decide +kernel
theorem dX11_goBack_38 : decode cX11_goBack 38 = .ok (.iadd, 1) := by decide +kernel
theorem dX11_goBack_39 : decode cX11_goBack 39 = .ok (.iaload, 1) := by decide +kernel
theorem dX11_goBack_40 : decode cX11_goBack 40 = .ok (.putfield 159, 3) := by decide +kernel
theorem dX11_goBack_43 : decode cX11_goBack 43 = .ok (.iconst 0, 1) := by decide +kernel
theorem dX11_goBack_44 : decode cX11_goBack 44 = .ok (.istore_n 2, 1) := by decide +kernel
theorem dX11_goBack_45 : decode cX11_goBack 45 = .ok (.iload_n 2, 1) := by decide +kernel
theorem dX11_goBack_46 : decode cX11_goBack 46 = .ok (.bipush 39, 2) := by decide +kernel
theorem dX11_goBack_48 : decode cX11_goBack 48 = .ok (.if_icmp .ge 28, 3) := by decide +kernel
theorem dX11_goBack_51 : decode cX11_goBack 51 = .ok (.aload_n 0, 1) := by decide +kernel
theorem dX11_goBack_52 : decode cX11_goBack 52 = .ok (.getfield 19, 3) := by decide +kernel
theorem dX11_goBack_55 : decode cX11_goBack 55 = .ok (.iload_n 2, 1) := by decide +kernel
theorem dX11_goBack_56 : decode cX11_goBack 56 = .ok (.aload_n 0, 1) := by decide +kernel
theorem dX11_goBack_57 : decode cX11_goBack 57 = .ok (.getfield 52, 3) := by decide +kernel
theorem dX11_goBack_60 : decode cX11_goBack 60 = .ok (.bipush 41, 2) := by decide +kernel
theorem dX11_goBack_62 : decode cX11_goBack 62 = .ok (.iload_n 1, 1) := by decide +kernel
theorem dX11_goBack_63 : decode cX11_goBack 63 = .ok (.imul, 1) := by decide +kernel
theorem dX11_goBack_64 : decode cX11_goBack 64 = .ok (.iconst 2, 1) := by decide +kernel
theorem dX11_goBack_65 : decode cX11_goBack 65 = .ok (.iadd, 1) := by decide +kernel
theorem dX11_goBack_66 : decode cX11_goBack 66 = .ok (.iload_n 2, 1) := by decide +kernel
theorem dX11_goBack_67 : decode cX11_goBack 67 = .ok (.iadd, 1) := by decide +kernel
theorem dX11_goBack_68 : decode cX11_goBack 68 = .ok (.iaload, 1) := by decide +kernel
theorem dX11_goBack_69 : decode cX11_goBack 69 = .ok (.iastore, 1) := by decide +kernel
theorem dX11_goBack_70 : decode cX11_goBack 70 = .ok (.iinc 2 1, 3) := by decide +kernel
theorem dX11_goBack_73 : decode cX11_goBack 73 = .ok (.goto (-28), 3) := by decide +kernel
theorem dX11_goBack_76 : decode cX11_goBack 76 = .ok (.aload_n 0, 1) := by decide +kernel
theorem dX11_goBack_77 : decode cX11_goBack 77 = .ok (.iconst 0, 1) := by decide +kernel
theorem dX11_goBack_78 : decode cX11_goBack 78 = .ok (.putfield 119, 3) := by decide +kernel
theorem dX11_goBack_81 : decode cX11_goBack 81 = .ok (.iconst 1, 1) := by decide +kernel
theorem dX11_goBack_82 : decode cX11_goBack 82 = .ok (.ireturn, 1) := by decide +kernel
