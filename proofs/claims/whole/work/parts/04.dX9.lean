theorem dX9_in_0 : decode cX9_in 0 = .ok (.lload_n 0, 1) := by decide +kernel
theorem dX9_in_1 : decode cX9_in 1 = .ok (.lload_n 2, 1) := by decide +kernel
theorem dX9_in_2 : decode cX9_in 2 = .ok (.lcmp, 1) := by decide +kernel
theorem dX9_in_3 : decode cX9_in 3 = .ok (.ifCond .lt 14, 3) := by decide +kernel
theorem dX9_in_6 : decode cX9_in 6 = .ok (.lload_n 0, 1) := by decide +kernel
theorem dX9_in_7 : decode cX9_in 7 = .ok (.lload 4, 2) := by decide +kernel
theorem dX9_in_9 : decode cX9_in 9 = .ok (.lcmp, 1) := by decide +kernel
theorem dX9_in_10 : decode cX9_in 10 = .ok (.ifCond .gt 7, 3) := by decide +kernel
theorem dX9_in_13 : decode cX9_in 13 = .ok (.iconst 1, 1) := by decide +kernel
theorem dX9_in_14 : decode cX9_in 14 = .ok (.goto 4, 3) := by decide +kernel
theorem dX9_in_17 : decode cX9_in 17 = .ok (.iconst 0, 1) := by decide +kernel
theorem dX9_in_18 : decode cX9_in 18 = .ok (.ireturn, 1) := by decide +kernel
set_option maxRecDepth 20000 in
theorem ggX9_init_X9_first : GoodIn wsX9_init wsX9_first := goodIn_r _ [22, 5, 23, 24, 25, 26, 27, 28, 29, 30, 31, 32, 33, 34, 35, 36, 37, 38, 39, 40, 41, 42] (by decide +kernel) (by decide +kernel)
set_option maxRecDepth 20000 in
theorem gX9_init_X9_first : GoodIn wsX9_init (wsV RX9 48 RX9 yX9_first wsX9_first) := goodIn_app (goodIn_of _ (by decide +kernel)) ggX9_init_X9_first
theorem dX9_init_0 : decode cX9_init 0 = .ok (.aload_n 0, 1) := by decide +kernel
theorem dX9_init_1 : decode cX9_init 1 = .ok (.invokespecial 1, 3) := by decide +kernel
theorem dX9_init_4 : decode cX9_init 4 = .ok (.aload_n 0, 1) := by decide +kernel
theorem dX9_init_5 : decode cX9_init 5 = .ok (.bipush 88, 2) := by decide +kernel
theorem dX9_init_7 : decode cX9_init 7 = .ok (.newarray .int, 2) := by decide +kernel
theorem dX9_init_9 : decode cX9_init 9 = .ok (.putfield 7, 3) := by decide +kernel
theorem dX9_init_12 : decode cX9_init 12 = .ok (.aload_n 0, 1) := by decide +kernel
theorem dX9_init_13 : decode cX9_init 13 = .ok (.sipush 130, 3) := by decide +kernel
theorem dX9_init_16 : decode cX9_init 16 = .ok (.newarray .int, 2) := by decide +kernel
theorem dX9_init_18 : decode cX9_init 18 = .ok (.putfield 13, 3) := by decide +kernel
theorem dX9_init_21 : decode cX9_init 21 = .ok (.aload_n 0, 1) := by decide +kernel
theorem dX9_init_22 : decode cX9_init 22 = .ok (.bipush 48, 2) := by decide +kernel
theorem dX9_init_24 : decode cX9_init 24 = .ok (.newarray .int, 2) := by decide +kernel
theorem dX9_init_26 : decode cX9_init 26 = .ok (.putfield 16, 3) := by decide +kernel
theorem dX9_init_29 : decode cX9_init 29 = .ok (.aload_n 0, 1) := by decide +kernel
theorem dX9_init_30 : decode cX9_init 30 = .ok (.bipush 24, 2) := by decide +kernel
theorem dX9_init_32 : decode cX9_init 32 = .ok (.newarray .int, 2) := by decide +kernel
theorem dX9_init_34 : decode cX9_init 34 = .ok (.putfield 19, 3) := by decide +kernel
theorem dX9_init_37 : decode cX9_init 37 = .ok (.aload_n 0, 1) := by decide +kernel
theorem dX9_init_38 : decode cX9_init 38 = .ok (.bipush (-4), 2) := by decide +kernel
theorem dX9_init_40 : decode cX9_init 40 = .ok (.putfield 22, 3) := by decide +kernel
theorem dX9_init_43 : decode cX9_init 43 = .ok (.aload_n 0, 1) := by decide +kernel
theorem dX9_init_44 : decode cX9_init 44 = .ok (.sipush 368, 3) := by decide +kernel
theorem dX9_init_47 : decode cX9_init 47 = .ok (.newarray .int, 2) := by decide +kernel
theorem dX9_init_49 : decode cX9_init 49 = .ok (.putfield 26, 3) := by decide +kernel
theorem dX9_init_52 : decode cX9_init 52 = .ok (.aload_n 0, 1) := by decide +kernel
theorem dX9_init_53 : decode cX9_init 53 = .ok (.bipush 88, 2) := by decide +kernel
theorem dX9_init_55 : decode cX9_init 55 = .ok (.newarray .int, 2) := by decide +kernel
theorem dX9_init_57 : decode cX9_init 57 = .ok (.putfield 29, 3) := by decide +kernel
theorem dX9_init_60 : decode cX9_init 60 = .ok (.aload_n 0, 1) := by decide +kernel
theorem dX9_init_61 : decode cX9_init 61 = .ok (.sipush 456, 3) := by decide +kernel
theorem dX9_init_64 : decode cX9_init 64 = .ok (.newarray .int, 2) := by decide +kernel
theorem dX9_init_66 : decode cX9_init 66 = .ok (.putfield 32, 3) := by decide +kernel
theorem dX9_init_69 : decode cX9_init 69 = .ok (.aload_n 0, 1) := by decide +kernel
theorem dX9_init_70 : decode cX9_init 70 = .ok (.iconst 4, 1) := by decide +kernel
theorem dX9_init_71 : decode cX9_init 71 = .ok (.newarray .int, 2) := by decide +kernel
theorem dX9_init_73 : decode cX9_init 73 = .ok (.putfield 35, 3) := by decide +kernel
theorem dX9_init_76 : decode cX9_init 76 = .ok (.aload_n 0, 1) := by decide +kernel
theorem dX9_init_77 : decode cX9_init 77 = .ok (.iconst 4, 1) := by decide +kernel
theorem dX9_init_78 : decode cX9_init 78 = .ok (.newarray .int, 2) := by decide +kernel
theorem dX9_init_80 : decode cX9_init 80 = .ok (.putfield 38, 3) := by decide +kernel
theorem dX9_init_83 : decode cX9_init 83 = .ok (.aload_n 0, 1) := by decide +kernel
theorem dX9_init_84 : decode cX9_init 84 = .ok (.bipush 96, 2) := by decide +kernel
theorem dX9_init_86 : decode cX9_init 86 = .ok (.newarray .long, 2) := by decide +kernel
theorem dX9_init_88 : decode cX9_init 88 = .ok (.putfield 41, 3) := by decide +kernel
theorem dX9_init_91 : decode cX9_init 91 = .ok (.aload_n 0, 1) := by decide +kernel
theorem dX9_init_92 : decode cX9_init 92 = .ok (.bipush 24, 2) := by decide +kernel
theorem dX9_init_94 : decode cX9_init 94 = .ok (.newarray .long, 2) := by decide +kernel
theorem dX9_init_96 : decode cX9_init 96 = .ok (.putfield 45, 3) := by decide +kernel
theorem dX9_init_99 : decode cX9_init 99 = .ok (.aload_n 0, 1) := by decide +kernel
theorem dX9_init_100 : decode cX9_init 100 = .ok (.getfield 7, 3) := by decide +kernel
theorem dX9_init_103 : decode cX9_init 103 = .ok (.iconst 0, 1) := by decide +kernel
theorem dX9_init_104 : decode cX9_init 104 = .ok (.bipush 12, 2) := by decide +kernel
theorem dX9_init_106 : decode cX9_init 106 = .ok (.iastore, 1) := by decide +kernel
theorem dX9_init_107 : decode cX9_init 107 = .ok (.iconst 0, 1) := by decide +kernel
theorem dX9_init_108 : decode cX9_init 108 = .ok (.istore_n 1, 1) := by decide +kernel
theorem dX9_init_109 : decode cX9_init 109 = .ok (.iload_n 1, 1) := by decide +kernel
theorem dX9_init_110 : decode cX9_init 110 = .ok (.bipush 24, 2) := by decide +kernel
theorem dX9_init_112 : decode cX9_init 112 = .ok (.if_icmp .ge 29, 3) := by decide +kernel
theorem dX9_init_115 : decode cX9_init 115 = .ok (.aload_n 0, 1) := by decide +kernel
theorem dX9_init_116 : decode cX9_init 116 = .ok (.getfield 7, 3) := by decide +kernel
theorem dX9_init_119 : decode cX9_init 119 = .ok (.bipush 8, 2) := by decide +kernel
theorem dX9_init_121 : decode cX9_init 121 = .ok (.iload_n 1, 1) := by decide +kernel
theorem dX9_init_122 : decode cX9_init 122 = .ok (.iadd, 1) := by decide +kernel
theorem dX9_init_123 : decode cX9_init 123 = .ok (.iconst 3, 1) := by decide +kernel
theorem dX9_init_124 : decode cX9_init 124 = .ok (.iastore, 1) := by decide +kernel
theorem dX9_init_125 : decode cX9_init 125 = .ok (.aload_n 0, 1) := by decide +kernel
theorem dX9_init_126 : decode cX9_init 126 = .ok (.getfield 7, 3) := by decide +kernel
theorem dX9_init_129 : decode cX9_init 129 = .ok (.bipush 32, 2) := by decide +kernel
theorem dX9_init_131 : decode cX9_init 131 = .ok (.iload_n 1, 1) := by decide +kernel
theorem dX9_init_132 : decode cX9_init 132 = .ok (.iadd, 1) := by decide +kernel
theorem dX9_init_133 : decode cX9_init 133 = .ok (.iconst 2, 1) := by decide +kernel
theorem dX9_init_134 : decode cX9_init 134 = .ok (.iastore, 1) := by decide +kernel
theorem dX9_init_135 : decode cX9_init 135 = .ok (.iinc 1 1, 3) := by decide +kernel
theorem dX9_init_138 : decode cX9_init 138 = .ok (.goto (-29), 3) := by decide +kernel
theorem dX9_init_141 : decode cX9_init 141 = .ok (.aload_n 0, 1) := by decide +kernel
theorem dX9_init_142 : decode cX9_init 142 = .ok (.getfield 7, 3) := by decide +kernel
theorem dX9_init_145 : decode cX9_init 145 = .ok (.bipush 7, 2) := by decide +kernel
theorem dX9_init_147 : decode cX9_init 147 = .ok (.iconst 1, 1) := by decide +kernel
theorem dX9_init_148 : decode cX9_init 148 = .ok (.iastore, 1) := by decide +kernel
theorem dX9_init_149 : decode cX9_init 149 = .ok (.aload_n 0, 1) := by decide +kernel
theorem dX9_init_150 : decode cX9_init 150 = .ok (.invokevirtual 48, 3) := by decide +kernel
theorem dX9_init_153 : decode cX9_init 153 = .ok (.iconst 0, 1) := by decide +kernel
theorem dX9_init_154 : decode cX9_init 154 = .ok (.istore_n 1, 1) := by decide +kernel
theorem dX9_init_155 : decode cX9_init 155 = .ok (.iload_n 1, 1) := by decide +kernel
theorem dX9_init_156 : decode cX9_init 156 = .ok (.iconst 4, 1) := by decide +kernel
theorem dX9_init_157 : decode cX9_init 157 = .ok (.if_icmp .ge 16, 3) := by decide +kernel
theorem dX9_init_160 : decode cX9_init 160 = .ok (.aload_n 0, 1) := by decide +kernel
theorem dX9_init_161 : decode cX9_init 161 = .ok (.getfield 35, 3) := by decide +kernel
theorem dX9_init_164 : decode cX9_init 164 = .ok (.iload_n 1, 1) := by decide +kernel
theorem dX9_init_165 : decode cX9_init 165 = .ok (.iconst (-1), 1) := by decide +kernel
theorem dX9_init_166 : decode cX9_init 166 = .ok (.iastore, 1) := by decide +kernel
theorem dX9_init_167 : decode cX9_init 167 = .ok (.iinc 1 1, 3) := by decide +kernel
theorem dX9_init_170 : decode cX9_init 170 = .ok (.goto (-15), 3) := by decide +kernel
theorem dX9_init_173 : decode cX9_init 173 = .ok (.return_, 1) := by decide +kernel
theorem dX9_first_0 : decode cX9_first 0 = .ok (.aload_n 0, 1) := by decide +kernel
theorem dX9_first_1 : decode cX9_first 1 = .ok (.getfield 7, 3) := by decide +kernel
theorem dX9_first_4 : decode cX9_first 4 = .ok (.iconst 2, 1) := by decide +kernel
theorem dX9_first_5 : decode cX9_first 5 = .ok (.iconst 0, 1) := by decide +kernel
theorem dX9_first_6 : decode cX9_first 6 = .ok (.iastore, 1) := by decide +kernel
theorem dX9_first_7 : decode cX9_first 7 = .ok (.aload_n 0, 1) := by decide +kernel
theorem dX9_first_8 : decode cX9_first 8 = .ok (.getfield 7, 3) := by decide +kernel
theorem dX9_first_11 : decode cX9_first 11 = .ok (.iconst 3, 1) := by decide +kernel
theorem dX9_first_12 : decode cX9_first 12 = .ok (.iconst 1, 1) := by decide +kernel
theorem dX9_first_13 : decode cX9_first 13 = .ok (.iastore, 1) := by decide +kernel
theorem dX9_first_14 : decode cX9_first 14 = .ok (.aload_n 0, 1) := by decide +kernel
theorem dX9_first_15 : decode cX9_first 15 = .ok (.getfield 7, 3) := by decide +kernel
theorem dX9_first_18 : decode cX9_first 18 = .ok (.iconst 4, 1) := by decide +kernel
theorem dX9_first_19 : decode cX9_first 19 = .ok (.iconst 0, 1) := by decide +kernel
theorem dX9_first_20 : decode cX9_first 20 = .ok (.iastore, 1) := by decide +kernel
theorem dX9_first_21 : decode cX9_first 21 = .ok (.aload_n 0, 1) := by decide +kernel
theorem dX9_first_22 : decode cX9_first 22 = .ok (.getfield 7, 3) := by decide +kernel
theorem dX9_first_25 : decode cX9_first 25 = .ok (.iconst 5, 1) := by decide +kernel
theorem dX9_first_26 : decode cX9_first 26 = .ok (.iconst 1, 1) := by decide +kernel
theorem dX9_first_27 : decode cX9_first 27 = .ok (.iastore, 1) := by decide +kernel
theorem dX9_first_28 : decode cX9_first 28 = .ok (.aload_n 0, 1) := by decide +kernel
theorem dX9_first_29 : decode cX9_first 29 = .ok (.getfield 7, 3) := by decide +kernel
theorem dX9_first_32 : decode cX9_first 32 = .ok (.bipush 6, 2) := by decide +kernel
theorem dX9_first_34 : decode cX9_first 34 = .ok (.iconst 0, 1) := by decide +kernel
theorem dX9_first_35 : decode cX9_first 35 = .ok (.iastore, 1) := by decide +kernel
theorem dX9_first_36 : decode cX9_first 36 = .ok (.return_, 1) := by decide +kernel
set_option maxRecDepth 20000 in
theorem ggX9_isCell_X9_in : GoodIn wsX9_isCell wsX9_in := goodIn_r _ [5] (by decide +kernel) (by decide +kernel)
set_option maxRecDepth 20000 in
theorem gX9_isCell_X9_in : GoodIn wsX9_isCell (va_wsS RX9 51 yX9_in wsX9_in) := goodIn_app (goodIn_of _ (by decide +kernel)) ggX9_isCell_X9_in
theorem dX9_isCell_0 : decode cX9_isCell 0 = .ok (.iload_n 1, 1) := by decide +kernel
theorem dX9_isCell_1 : decode cX9_isCell 1 = .ok (.i2l, 1) := by decide +kernel
theorem dX9_isCell_2 : decode cX9_isCell 2 = .ok (.lconst 0, 1) := by decide +kernel
theorem dX9_isCell_3 : decode cX9_isCell 3 = .ok (.aload_n 0, 1) := by decide +kernel
theorem dX9_isCell_4 : decode cX9_isCell 4 = .ok (.getfield 7, 3) := by decide +kernel
theorem dX9_isCell_7 : decode cX9_isCell 7 = .ok (.iconst 0, 1) := by decide +kernel
theorem dX9_isCell_8 : decode cX9_isCell 8 = .ok (.iaload, 1) := by decide +kernel
theorem dX9_isCell_9 : decode cX9_isCell 9 = .ok (.iconst 1, 1) := by decide +kernel
theorem dX9_isCell_10 : decode cX9_isCell 10 = .ok (.isub, 1) := by decide +kernel
theorem dX9_isCell_11 : decode cX9_isCell 11 = .ok (.i2l, 1) := by decide +kernel
theorem dX9_isCell_12 : decode cX9_isCell 12 = .ok (.invokestatic 51, 3) := by decide +kernel
theorem dX9_isCell_15 : decode cX9_isCell 15 = .ok (.ireturn, 1) := by decide +kernel
set_option maxRecDepth 20000 in
theorem ggX9_isThing_X9_in : GoodIn wsX9_isThing wsX9_in := goodIn_r _ [5] (by decide +kernel) (by decide +kernel)
set_option maxRecDepth 20000 in
theorem gX9_isThing_X9_in : GoodIn wsX9_isThing (va_wsS RX9 51 yX9_in wsX9_in) := goodIn_app (goodIn_of _ (by decide +kernel)) ggX9_isThing_X9_in
theorem dX9_isThing_0 : decode cX9_isThing 0 = .ok (.iload_n 1, 1) := by decide +kernel
theorem dX9_isThing_1 : decode cX9_isThing 1 = .ok (.i2l, 1) := by decide +kernel
theorem dX9_isThing_2 : decode cX9_isThing 2 = .ok (.lconst 0, 1) := by decide +kernel
theorem dX9_isThing_3 : decode cX9_isThing 3 = .ok (.aload_n 0, 1) := by decide +kernel
theorem dX9_isThing_4 : decode cX9_isThing 4 = .ok (.getfield 7, 3) := by decide +kernel
theorem dX9_isThing_7 : decode cX9_isThing 7 = .ok (.iconst 1, 1) := by decide +kernel
theorem dX9_isThing_8 : decode cX9_isThing 8 = .ok (.iaload, 1) := by decide +kernel
theorem dX9_isThing_9 : decode cX9_isThing 9 = .ok (.iconst 1, 1) := by decide +kernel
theorem dX9_isThing_10 : decode cX9_isThing 10 = .ok (.isub, 1) := by decide +kernel
theorem dX9_isThing_11 : decode cX9_isThing 11 = .ok (.i2l, 1) := by decide +kernel
theorem dX9_isThing_12 : decode cX9_isThing 12 = .ok (.invokestatic 51, 3) := by decide +kernel
theorem dX9_isThing_15 : decode cX9_isThing 15 = .ok (.ireturn, 1) := by decide +kernel
theorem dX9_kind_0 : decode cX9_kind 0 = .ok (.aload_n 0, 1) := by decide +kernel
theorem dX9_kind_1 : decode cX9_kind 1 = .ok (.getfield 7, 3) := by decide +kernel
theorem dX9_kind_4 : decode cX9_kind 4 = .ok (.bipush 56, 2) := by decide +kernel
theorem dX9_kind_6 : decode cX9_kind 6 = .ok (.iconst 3, 1) := by decide +kernel
theorem dX9_kind_7 : decode cX9_kind 7 = .ok (.iload_n 1, 1) := by decide +kernel
theorem dX9_kind_8 : decode cX9_kind 8 = .ok (.imul, 1) := by decide +kernel
theorem dX9_kind_9 : decode cX9_kind 9 = .ok (.iadd, 1) := by decide +kernel
theorem dX9_kind_10 : decode cX9_kind 10 = .ok (.iaload, 1) := by decide +kernel
theorem dX9_kind_11 : decode cX9_kind 11 = .ok (.ireturn, 1) := by decide +kernel
theorem dX9_heavy_0 : decode cX9_heavy 0 = .ok (.aload_n 0, 1) := by decide +kernel
theorem dX9_heavy_1 : decode cX9_heavy 1 = .ok (.getfield 7, 3) := by decide +kernel
theorem dX9_heavy_4 : decode cX9_heavy 4 = .ok (.bipush 56, 2) := by decide +kernel
theorem dX9_heavy_6 : decode cX9_heavy 6 = .ok (.iconst 3, 1) := by decide +kernel
theorem dX9_heavy_7 : decode cX9_heavy 7 = .ok (.iload_n 1, 1) := by decide +kernel
theorem dX9_heavy_8 : decode cX9_heavy 8 = .ok (.imul, 1) := by decide +kernel
theorem dX9_heavy_9 : decode cX9_heavy 9 = .ok (.iadd, 1) := by decide +kernel
theorem dX9_heavy_10 : decode cX9_heavy 10 = .ok (.iconst 1, 1) := by decide +kernel
theorem dX9_heavy_11 : decode cX9_heavy 11 = .ok (.iadd, 1) := by decide +kernel
theorem dX9_heavy_12 : decode cX9_heavy 12 = .ok (.iaload, 1) := by decide +kernel
theorem dX9_heavy_13 : decode cX9_heavy 13 = .ok (.ireturn, 1) := by decide +kernel
theorem dX9_where_0 : decode cX9_where 0 = .ok (.aload_n 0, 1) := by decide +kernel
theorem dX9_where_1 : decode cX9_where 1 = .ok (.getfield 7, 3) := by decide +kernel
theorem dX9_where_4 : decode cX9_where 4 = .ok (.bipush 56, 2) := by decide +kernel
theorem dX9_where_6 : decode cX9_where 6 = .ok (.iconst 3, 1) := by decide +kernel
theorem dX9_where_7 : decode cX9_where 7 = .ok (.iload_n 1, 1) := by decide +kernel
theorem dX9_where_8 : decode cX9_where 8 = .ok (.imul, 1) := by decide +kernel
theorem dX9_where_9 : decode cX9_where 9 = .ok (.iadd, 1) := by decide +kernel
theorem dX9_where_10 : decode cX9_where 10 = .ok (.iconst 2, 1) := by decide +kernel
theorem dX9_where_11 : decode cX9_where 11 = .ok (.iadd, 1) := by decide +kernel
theorem dX9_where_12 : decode cX9_where 12 = .ok (.iaload, 1) := by decide +kernel
theorem dX9_where_13 : decode cX9_where 13 = .ok (.ireturn, 1) := by decide +kernel
set_option maxRecDepth 20000 in
theorem ggX9_thoseAt_X9_where : GoodIn wsX9_thoseAt wsX9_where := goodIn_r _ [6, 1, 7, 8, 9, 10, 11, 12, 13, 14, 15, 16, 17, 18, 19, 20, 21, 22, 23, 24, 25, 26] (by decide +kernel) (by decide +kernel)
set_option maxRecDepth 20000 in
theorem gX9_thoseAt_X9_where : GoodIn wsX9_thoseAt (wsV RX9 55 RX9 yX9_where wsX9_where) := goodIn_app (goodIn_of _ (by decide +kernel)) ggX9_thoseAt_X9_where
theorem dX9_thoseAt_0 : decode cX9_thoseAt 0 = .ok (.iconst 0, 1) := by decide +kernel
theorem dX9_thoseAt_1 : decode cX9_thoseAt 1 = .ok (.istore_n 2, 1) := by decide +kernel
theorem dX9_thoseAt_2 : decode cX9_thoseAt 2 = .ok (.iconst 0, 1) := by decide +kernel
theorem dX9_thoseAt_3 : decode cX9_thoseAt 3 = .ok (.istore_n 3, 1) := by decide +kernel
theorem dX9_thoseAt_4 : decode cX9_thoseAt 4 = .ok (.iload_n 3, 1) := by decide +kernel
theorem dX9_thoseAt_5 : decode cX9_thoseAt 5 = .ok (.aload_n 0, 1) := by decide +kernel
theorem dX9_thoseAt_6 : decode cX9_thoseAt 6 = .ok (.getfield 7, 3) := by decide +kernel
theorem dX9_thoseAt_9 : decode cX9_thoseAt 9 = .ok (.iconst 1, 1) := by decide +kernel
theorem dX9_thoseAt_10 : decode cX9_thoseAt 10 = .ok (.iaload, 1) := by decide +kernel
theorem dX9_thoseAt_11 : decode cX9_thoseAt 11 = .ok (.if_icmp .ge 28, 3) := by decide +kernel
theorem dX9_thoseAt_14 : decode cX9_thoseAt 14 = .ok (.iload_n 2, 1) := by decide +kernel
theorem dX9_thoseAt_15 : decode cX9_thoseAt 15 = .ok (.aload_n 0, 1) := by decide +kernel
theorem dX9_thoseAt_16 : decode cX9_thoseAt 16 = .ok (.iload_n 3, 1) := by decide +kernel
theorem dX9_thoseAt_17 : decode cX9_thoseAt 17 = .ok (.invokevirtual 55, 3) := by decide +kernel
theorem dX9_thoseAt_20 : decode cX9_thoseAt 20 = .ok (.iload_n 1, 1) := by decide +kernel
theorem dX9_thoseAt_21 : decode cX9_thoseAt 21 = .ok (.if_icmp .ne 9, 3) := by decide +kernel
theorem dX9_thoseAt_24 : decode cX9_thoseAt 24 = .ok (.iconst 1, 1) := by decide +kernel
theorem dX9_thoseAt_25 : decode cX9_thoseAt 25 = .ok (.iload_n 3, 1) := by decide +kernel
theorem dX9_thoseAt_26 : decode cX9_thoseAt 26 = .ok (.ishl, 1) := by decide +kernel
theorem dX9_thoseAt_27 : decode cX9_thoseAt 27 = .ok (.goto 4, 3) := by decide +kernel
theorem dX9_thoseAt_30 : decode cX9_thoseAt 30 = .ok (.iconst 0, 1) := by decide +kernel
theorem dX9_thoseAt_31 : decode cX9_thoseAt 31 = .ok (.ior, 1) := by decide +kernel
theorem dX9_thoseAt_32 : decode cX9_thoseAt 32 = .ok (.istore_n 2, 1) := by decide +kernel
theorem dX9_thoseAt_33 : decode cX9_thoseAt 33 = .ok (.iinc 3 1, 3) := by decide +kernel
theorem dX9_thoseAt_36 : decode cX9_thoseAt 36 = .ok (.goto (-32), 3) := by decide +kernel
theorem dX9_thoseAt_39 : decode cX9_thoseAt 39 = .ok (.iload_n 2, 1) := by decide +kernel
theorem dX9_thoseAt_40 : decode cX9_thoseAt 40 = .ok (.ireturn, 1) := by decide +kernel
theorem dX9_snowOfAll_0 : decode cX9_snowOfAll 0 = .ok (.iconst 0, 1) := by decide +kernel
theorem dX9_snowOfAll_1 : decode cX9_snowOfAll 1 = .ok (.istore_n 1, 1) := by decide +kernel
theorem dX9_snowOfAll_2 : decode cX9_snowOfAll 2 = .ok (.iconst 0, 1) := by decide +kernel
theorem dX9_snowOfAll_3 : decode cX9_snowOfAll 3 = .ok (.istore_n 2, 1) := by decide +kernel
theorem dX9_snowOfAll_4 : decode cX9_snowOfAll 4 = .ok (.iload_n 2, 1) := by decide +kernel
theorem dX9_snowOfAll_5 : decode cX9_snowOfAll 5 = .ok (.aload_n 0, 1) := by decide +kernel
theorem dX9_snowOfAll_6 : decode cX9_snowOfAll 6 = .ok (.getfield 7, 3) := by decide +kernel
theorem dX9_snowOfAll_9 : decode cX9_snowOfAll 9 = .ok (.iconst 0, 1) := by decide +kernel
theorem dX9_snowOfAll_10 : decode cX9_snowOfAll 10 = .ok (.iaload, 1) := by decide +kernel
theorem dX9_snowOfAll_11 : decode cX9_snowOfAll 11 = .ok (.if_icmp .ge 21, 3) := by decide +kernel
theorem dX9_snowOfAll_14 : decode cX9_snowOfAll 14 = .ok (.iload_n 1, 1) := by decide +kernel
theorem dX9_snowOfAll_15 : decode cX9_snowOfAll 15 = .ok (.aload_n 0, 1) := by decide +kernel
theorem dX9_snowOfAll_16 : decode cX9_snowOfAll 16 = .ok (.getfield 7, 3) := by decide +kernel
theorem dX9_snowOfAll_19 : decode cX9_snowOfAll 19 = .ok (.bipush 32, 2) := by decide +kernel
theorem dX9_snowOfAll_21 : decode cX9_snowOfAll 21 = .ok (.iload_n 2, 1) := by decide +kernel
theorem dX9_snowOfAll_22 : decode cX9_snowOfAll 22 = .ok (.iadd, 1) := by decide +kernel
theorem dX9_snowOfAll_23 : decode cX9_snowOfAll 23 = .ok (.iaload, 1) := by decide +kernel
theorem dX9_snowOfAll_24 : decode cX9_snowOfAll 24 = .ok (.iadd, 1) := by decide +kernel
theorem dX9_snowOfAll_25 : decode cX9_snowOfAll 25 = .ok (.istore_n 1, 1) := by decide +kernel
theorem dX9_snowOfAll_26 : decode cX9_snowOfAll 26 = .ok (.iinc 2 1, 3) := by decide +kernel
theorem dX9_snowOfAll_29 : decode cX9_snowOfAll 29 = .ok (.goto (-25), 3) := by decide +kernel
theorem dX9_snowOfAll_32 : decode cX9_snowOfAll 32 = .ok (.iload_n 1, 1) := by decide +kernel
theorem dX9_snowOfAll_33 : decode cX9_snowOfAll 33 = .ok (.ireturn, 1) := by decide +kernel
set_option maxRecDepth 20000 in
theorem ggX9_cell_X9_isCell : GoodIn wsX9_cell wsX9_isCell := goodIn_r _ [7, 2, 8, 9, 6, 10, 11, 12, 13, 14, 15, 16, 17, 18, 19, 20, 21, 22, 23, 24, 25, 26, 27, 28, 29, 30] (by decide +kernel) (by decide +kernel)
set_option maxRecDepth 20000 in
theorem gX9_cell_X9_isCell : GoodIn wsX9_cell (wsV RX9 59 RX9 yX9_isCell wsX9_isCell) := goodIn_app (goodIn_of _ (by decide +kernel)) ggX9_cell_X9_isCell
set_option maxRecDepth 20000 in
theorem ggX9_cell_X9_in : GoodIn wsX9_cell wsX9_in := goodIn_r _ [10] (by decide +kernel) (by decide +kernel)
set_option maxRecDepth 20000 in
theorem gX9_cell_X9_in : GoodIn wsX9_cell (va_wsS RX9 51 yX9_in wsX9_in) := goodIn_app (goodIn_of _ (by decide +kernel)) ggX9_cell_X9_in
theorem dX9_cell_0 : decode cX9_cell 0 = .ok (.aload_n 0, 1) := by decide +kernel
theorem dX9_cell_1 : decode cX9_cell 1 = .ok (.iload_n 1, 1) := by decide +kernel
theorem dX9_cell_2 : decode cX9_cell 2 = .ok (.invokevirtual 59, 3) := by decide +kernel
theorem dX9_cell_5 : decode cX9_cell 5 = .ok (.ifCond .eq 25, 3) := by decide +kernel
theorem dX9_cell_8 : decode cX9_cell 8 = .ok (.iload_n 2, 1) := by decide +kernel
theorem dX9_cell_9 : decode cX9_cell 9 = .ok (.i2l, 1) := by decide +kernel
theorem dX9_cell_10 : decode cX9_cell 10 = .ok (.lconst 0, 1) := by decide +kernel
theorem dX9_cell_11 : decode cX9_cell 11 = .ok (.lconst 1, 1) := by decide +kernel
theorem dX9_cell_12 : decode cX9_cell 12 = .ok (.invokestatic 51, 3) := by decide +kernel
theorem dX9_cell_15 : decode cX9_cell 15 = .ok (.ifCond .eq 15, 3) := by decide +kernel
theorem dX9_cell_18 : decode cX9_cell 18 = .ok (.iload_n 3, 1) := by decide +kernel
theorem dX9_cell_19 : decode cX9_cell 19 = .ok (.i2l, 1) := by decide +kernel
theorem dX9_cell_20 : decode cX9_cell 20 = .ok (.lconst 0, 1) := by decide +kernel
theorem dX9_cell_21 : decode cX9_cell 21 = .ok (.ldc2_w 63, 3) := by decide +kernel
theorem dX9_cell_24 : decode cX9_cell 24 = .ok (.invokestatic 51, 3) := by decide +kernel
theorem dX9_cell_27 : decode cX9_cell 27 = .ok (.ifCond .ne 5, 3) := by decide +kernel
theorem dX9_cell_30 : decode cX9_cell 30 = .ok (.iconst (-1), 1) := by decide +kernel
theorem dX9_cell_31 : decode cX9_cell 31 = .ok (.ireturn, 1) := by decide +kernel
theorem dX9_cell_32 : decode cX9_cell 32 = .ok (.iload_n 2, 1) := by decide +kernel
theorem dX9_cell_33 : decode cX9_cell 33 = .ok (.ifCond .ne 8, 3) := by decide +kernel
theorem dX9_cell_36 : decode cX9_cell 36 = .ok (.bipush 8, 2) := by decide +kernel
theorem dX9_cell_38 : decode cX9_cell 38 = .ok (.goto 5, 3) := by decide +kernel
theorem dX9_cell_41 : decode cX9_cell 41 = .ok (.bipush 32, 2) := by decide +kernel
theorem dX9_cell_43 : decode cX9_cell 43 = .ok (.iload_n 1, 1) := by decide +kernel
theorem dX9_cell_44 : decode cX9_cell 44 = .ok (.iadd, 1) := by decide +kernel
theorem dX9_cell_45 : decode cX9_cell 45 = .ok (.istore 4, 2) := by decide +kernel
theorem dX9_cell_47 : decode cX9_cell 47 = .ok (.aload_n 0, 1) := by decide +kernel
theorem dX9_cell_48 : decode cX9_cell 48 = .ok (.getfield 7, 3) := by decide +kernel
theorem dX9_cell_51 : decode cX9_cell 51 = .ok (.iload 4, 2) := by decide +kernel
theorem dX9_cell_53 : decode cX9_cell 53 = .ok (.iaload, 1) := by decide +kernel
theorem dX9_cell_54 : decode cX9_cell 54 = .ok (.istore 5, 2) := by decide +kernel
theorem dX9_cell_56 : decode cX9_cell 56 = .ok (.aload_n 0, 1) := by decide +kernel
theorem dX9_cell_57 : decode cX9_cell 57 = .ok (.getfield 7, 3) := by decide +kernel
theorem dX9_cell_60 : decode cX9_cell 60 = .ok (.iload 4, 2) := by decide +kernel
theorem dX9_cell_62 : decode cX9_cell 62 = .ok (.iload_n 3, 1) := by decide +kernel
theorem dX9_cell_63 : decode cX9_cell 63 = .ok (.iastore, 1) := by decide +kernel
theorem dX9_cell_64 : decode cX9_cell 64 = .ok (.iload 5, 2) := by decide +kernel
theorem dX9_cell_66 : decode cX9_cell 66 = .ok (.ireturn, 1) := by decide +kernel
set_option maxRecDepth 20000 in
theorem ggX9_at_X9_isCell : GoodIn wsX9_at wsX9_isCell := goodIn_r _ [7, 2, 8, 9, 6, 10, 19, 20, 21, 22, 23, 24, 25, 26, 27, 28, 29, 30, 31, 32, 33, 34, 35, 36, 37, 38] (by decide +kernel) (by decide +kernel)
set_option maxRecDepth 20000 in
theorem gX9_at_X9_isCell : GoodIn wsX9_at (wsV RX9 59 RX9 yX9_isCell wsX9_isCell) := goodIn_app (goodIn_of _ (by decide +kernel)) ggX9_at_X9_isCell
set_option maxRecDepth 20000 in
theorem ggX9_at_X9_in : GoodIn wsX9_at wsX9_in := goodIn_r _ [10] (by decide +kernel) (by decide +kernel)
set_option maxRecDepth 20000 in
theorem gX9_at_X9_in : GoodIn wsX9_at (va_wsS RX9 51 yX9_in wsX9_in) := goodIn_app (goodIn_of _ (by decide +kernel)) ggX9_at_X9_in
set_option maxRecDepth 20000 in
theorem ggX9_at_X9_thoseAt : GoodIn wsX9_at wsX9_thoseAt := goodIn_r _ [14, 2, 15, 16, 17, 6, 18, 19, 20, 21, 22, 23, 24, 25, 26, 27, 28, 29, 30, 31, 32, 33, 34, 35, 36, 37, 38] (by decide +kernel) (by decide +kernel)
set_option maxRecDepth 20000 in
theorem gX9_at_X9_thoseAt : GoodIn wsX9_at (wsV RX9 67 RX9 yX9_thoseAt wsX9_thoseAt) := goodIn_app (goodIn_of _ (by decide +kernel)) ggX9_at_X9_thoseAt
theorem dX9_at_0 : decode cX9_at 0 = .ok (.aload_n 0, 1) := by decide +kernel
theorem dX9_at_1 : decode cX9_at 1 = .ok (.iload_n 1, 1) := by decide +kernel
theorem dX9_at_2 : decode cX9_at 2 = .ok (.invokevirtual 59, 3) := by decide +kernel
theorem dX9_at_5 : decode cX9_at 5 = .ok (.ifCond .eq 15, 3) := by decide +kernel
theorem dX9_at_8 : decode cX9_at 8 = .ok (.iload_n 2, 1) := by decide +kernel
theorem dX9_at_9 : decode cX9_at 9 = .ok (.i2l, 1) := by decide +kernel
theorem dX9_at_10 : decode cX9_at 10 = .ok (.lconst 0, 1) := by decide +kernel
theorem dX9_at_11 : decode cX9_at 11 = .ok (.ldc2_w 65, 3) := by decide +kernel
theorem dX9_at_14 : decode cX9_at 14 = .ok (.invokestatic 51, 3) := by decide +kernel
theorem dX9_at_17 : decode cX9_at 17 = .ok (.ifCond .ne 5, 3) := by decide +kernel
theorem dX9_at_20 : decode cX9_at 20 = .ok (.iconst (-1), 1) := by decide +kernel
theorem dX9_at_21 : decode cX9_at 21 = .ok (.ireturn, 1) := by decide +kernel
theorem dX9_at_22 : decode cX9_at 22 = .ok (.iload_n 2, 1) := by decide +kernel
theorem dX9_at_23 : decode cX9_at 23 = .ok (.ifCond .ne 15, 3) := by decide +kernel
theorem dX9_at_26 : decode cX9_at 26 = .ok (.aload_n 0, 1) := by decide +kernel
theorem dX9_at_27 : decode cX9_at 27 = .ok (.getfield 7, 3) := by decide +kernel
theorem dX9_at_30 : decode cX9_at 30 = .ok (.bipush 8, 2) := by decide +kernel
theorem dX9_at_32 : decode cX9_at 32 = .ok (.iload_n 1, 1) := by decide +kernel
theorem dX9_at_33 : decode cX9_at 33 = .ok (.iadd, 1) := by decide +kernel
theorem dX9_at_34 : decode cX9_at 34 = .ok (.iaload, 1) := by decide +kernel
theorem dX9_at_35 : decode cX9_at 35 = .ok (.goto 25, 3) := by decide +kernel
theorem dX9_at_38 : decode cX9_at 38 = .ok (.iload_n 2, 1) := by decide +kernel
theorem dX9_at_39 : decode cX9_at 39 = .ok (.iconst 1, 1) := by decide +kernel
theorem dX9_at_40 : decode cX9_at 40 = .ok (.if_icmp .ne 15, 3) := by decide +kernel
theorem dX9_at_43 : decode cX9_at 43 = .ok (.aload_n 0, 1) := by decide +kernel
theorem dX9_at_44 : decode cX9_at 44 = .ok (.getfield 7, 3) := by decide +kernel
theorem dX9_at_47 : decode cX9_at 47 = .ok (.bipush 32, 2) := by decide +kernel
theorem dX9_at_49 : decode cX9_at 49 = .ok (.iload_n 1, 1) := by decide +kernel
theorem dX9_at_50 : decode cX9_at 50 = .ok (.iadd, 1) := by decide +kernel
theorem dX9_at_51 : decode cX9_at 51 = .ok (.iaload, 1) := by decide +kernel
theorem dX9_at_52 : decode cX9_at 52 = .ok (.goto 8, 3) := by decide +kernel
theorem dX9_at_55 : decode cX9_at 55 = .ok (.aload_n 0, 1) := by decide +kernel
theorem dX9_at_56 : decode cX9_at 56 = .ok (.iload_n 1, 1) := by decide +kernel
theorem dX9_at_57 : decode cX9_at 57 = .ok (.invokevirtual 67, 3) := by decide +kernel
theorem dX9_at_60 : decode cX9_at 60 = .ok (.ireturn, 1) := by decide +kernel
theorem dX9_comes_0 : decode cX9_comes 0 = .ok (.bipush 56, 2) := by decide +kernel
theorem dX9_comes_2 : decode cX9_comes 2 = .ok (.iconst 3, 1) := by decide +kernel
theorem dX9_comes_3 : decode cX9_comes 3 = .ok (.aload_n 0, 1) := by decide +kernel
theorem dX9_comes_4 : decode cX9_comes 4 = .ok (.getfield 7, 3) := by decide +kernel
theorem dX9_comes_7 : decode cX9_comes 7 = .ok (.iconst 1, 1) := by decide +kernel
theorem dX9_comes_8 : decode cX9_comes 8 = .ok (.iaload, 1) := by decide +kernel
theorem dX9_comes_9 : decode cX9_comes 9 = .ok (.imul, 1) := by decide +kernel
theorem dX9_comes_10 : decode cX9_comes 10 = .ok (.iadd, 1) := by decide +kernel
theorem dX9_comes_11 : decode cX9_comes 11 = .ok (.istore 4, 2) := by decide +kernel
theorem dX9_comes_13 : decode cX9_comes 13 = .ok (.aload_n 0, 1) := by decide +kernel
theorem dX9_comes_14 : decode cX9_comes 14 = .ok (.getfield 7, 3) := by decide +kernel
theorem dX9_comes_17 : decode cX9_comes 17 = .ok (.iload 4, 2) := by decide +kernel
theorem dX9_comes_19 : decode cX9_comes 19 = .ok (.iload_n 1, 1) := by decide +kernel
theorem dX9_comes_20 : decode cX9_comes 20 = .ok (.iastore, 1) := by decide +kernel
theorem dX9_comes_21 : decode cX9_comes 21 = .ok (.aload_n 0, 1) := by decide +kernel
theorem dX9_comes_22 : decode cX9_comes 22 = .ok (.getfield 7, 3) := by decide +kernel
theorem dX9_comes_25 : decode cX9_comes 25 = .ok (.iload 4, 2) := by decide +kernel
theorem dX9_comes_27 : decode cX9_comes 27 = .ok (.iconst 1, 1) := by decide +kernel
theorem dX9_comes_28 : decode cX9_comes 28 = .ok (.iadd, 1) := by decide +kernel
theorem dX9_comes_29 : decode cX9_comes 29 = .ok (.iload_n 2, 1) := by decide +kernel
theorem dX9_comes_30 : decode cX9_comes 30 = .ok (.iastore, 1) := by decide +kernel
theorem dX9_comes_31 : decode cX9_comes 31 = .ok (.aload_n 0, 1) := by decide +kernel
theorem dX9_comes_32 : decode cX9_comes 32 = .ok (.getfield 7, 3) := by decide +kernel
theorem dX9_comes_35 : decode cX9_comes 35 = .ok (.iload 4, 2) := by decide +kernel
theorem dX9_comes_37 : decode cX9_comes 37 = .ok (.iconst 2, 1) := by decide +kernel
theorem dX9_comes_38 : decode cX9_comes 38 = .ok (.iadd, 1) := by decide +kernel
theorem dX9_comes_39 : decode cX9_comes 39 = .ok (.iload_n 3, 1) := by decide +kernel
theorem dX9_comes_40 : decode cX9_comes 40 = .ok (.iastore, 1) := by decide +kernel
theorem dX9_comes_41 : decode cX9_comes 41 = .ok (.aload_n 0, 1) := by decide +kernel
theorem dX9_comes_42 : decode cX9_comes 42 = .ok (.getfield 7, 3) := by decide +kernel
theorem dX9_comes_45 : decode cX9_comes 45 = .ok (.iconst 1, 1) := by decide +kernel
theorem dX9_comes_46 : decode cX9_comes 46 = .ok (.dup2, 1) := by decide +kernel
theorem dX9_comes_47 : decode cX9_comes 47 = .ok (.iaload, 1) := by decide +kernel
theorem dX9_comes_48 : decode cX9_comes 48 = .ok (.iconst 1, 1) := by decide +kernel
theorem dX9_comes_49 : decode cX9_comes 49 = .ok (.iadd, 1) := by decide +kernel
theorem dX9_comes_50 : decode cX9_comes 50 = .ok (.iastore, 1) := by decide +kernel
theorem dX9_comes_51 : decode cX9_comes 51 = .ok (.aload_n 0, 1) := by decide +kernel
theorem dX9_comes_52 : decode cX9_comes 52 = .ok (.iconst 0, 1) := by decide +kernel
theorem dX9_comes_53 : decode cX9_comes 53 = .ok (.putfield 70, 3) := by decide +kernel
theorem dX9_comes_56 : decode cX9_comes 56 = .ok (.return_, 1) := by decide +kernel
set_option maxRecDepth 20000 in
theorem ggX9_thing_X9_in : GoodIn wsX9_thing wsX9_in := goodIn_r _ [7] (by decide +kernel) (by decide +kernel)
set_option maxRecDepth 20000 in
theorem gX9_thing_X9_in : GoodIn wsX9_thing (va_wsS RX9 51 yX9_in wsX9_in) := goodIn_app (goodIn_of _ (by decide +kernel)) ggX9_thing_X9_in
set_option maxRecDepth 20000 in
theorem ggX9_thing_X9_isCell : GoodIn wsX9_thing wsX9_isCell := goodIn_r _ [11, 3, 4, 5, 6, 7, 17, 18, 19, 20, 21, 22, 23, 24, 25, 26, 27, 28, 29, 30, 31, 32, 33, 34, 35, 36] (by decide +kernel) (by decide +kernel)
set_option maxRecDepth 20000 in
theorem gX9_thing_X9_isCell : GoodIn wsX9_thing (wsV RX9 59 RX9 yX9_isCell wsX9_isCell) := goodIn_app (goodIn_of _ (by decide +kernel)) ggX9_thing_X9_isCell
set_option maxRecDepth 20000 in
theorem ggX9_thing_X9_comes : GoodIn wsX9_thing wsX9_comes := goodIn_r _ [15, 3, 16, 17, 18, 19, 20, 21, 22, 23, 24, 25, 26, 27, 28, 29, 30, 31, 32, 33, 34, 35, 36] (by decide +kernel) (by decide +kernel)
set_option maxRecDepth 20000 in
theorem gX9_thing_X9_comes : GoodIn wsX9_thing (wsV RX9 75 RX9 yX9_comes wsX9_comes) := goodIn_app (goodIn_of _ (by decide +kernel)) ggX9_thing_X9_comes
theorem dX9_thing_0 : decode cX9_thing 0 = .ok (.iload_n 1, 1) := by decide +kernel
theorem dX9_thing_1 : decode cX9_thing 1 = .ok (.i2l, 1) := by decide +kernel
theorem dX9_thing_2 : decode cX9_thing 2 = .ok (.lconst 0, 1) := by decide +kernel
theorem dX9_thing_3 : decode cX9_thing 3 = .ok (.ldc2_w 73, 3) := by decide +kernel
theorem dX9_thing_6 : decode cX9_thing 6 = .ok (.invokestatic 51, 3) := by decide +kernel
theorem dX9_thing_9 : decode cX9_thing 9 = .ok (.ifCond .eq 23, 3) := by decide +kernel
theorem dX9_thing_12 : decode cX9_thing 12 = .ok (.iload_n 2, 1) := by decide +kernel
theorem dX9_thing_13 : decode cX9_thing 13 = .ok (.i2l, 1) := by decide +kernel
theorem dX9_thing_14 : decode cX9_thing 14 = .ok (.lconst 0, 1) := by decide +kernel
theorem dX9_thing_15 : decode cX9_thing 15 = .ok (.ldc2_w 63, 3) := by decide +kernel
theorem dX9_thing_18 : decode cX9_thing 18 = .ok (.invokestatic 51, 3) := by decide +kernel
theorem dX9_thing_21 : decode cX9_thing 21 = .ok (.ifCond .eq 11, 3) := by decide +kernel
theorem dX9_thing_24 : decode cX9_thing 24 = .ok (.aload_n 0, 1) := by decide +kernel
theorem dX9_thing_25 : decode cX9_thing 25 = .ok (.iload_n 3, 1) := by decide +kernel
theorem dX9_thing_26 : decode cX9_thing 26 = .ok (.invokevirtual 59, 3) := by decide +kernel
theorem dX9_thing_29 : decode cX9_thing 29 = .ok (.ifCond .ne 5, 3) := by decide +kernel
theorem dX9_thing_32 : decode cX9_thing 32 = .ok (.iconst (-1), 1) := by decide +kernel
theorem dX9_thing_33 : decode cX9_thing 33 = .ok (.ireturn, 1) := by decide +kernel
theorem dX9_thing_34 : decode cX9_thing 34 = .ok (.aload_n 0, 1) := by decide +kernel
theorem dX9_thing_35 : decode cX9_thing 35 = .ok (.getfield 7, 3) := by decide +kernel
theorem dX9_thing_38 : decode cX9_thing 38 = .ok (.iconst 1, 1) := by decide +kernel
theorem dX9_thing_39 : decode cX9_thing 39 = .ok (.iaload, 1) := by decide +kernel
theorem dX9_thing_40 : decode cX9_thing 40 = .ok (.bipush 8, 2) := by decide +kernel
theorem dX9_thing_42 : decode cX9_thing 42 = .ok (.if_icmp .ne 6, 3) := by decide +kernel
theorem dX9_thing_45 : decode cX9_thing 45 = .ok (.bipush (-3), 2) := by decide +kernel
theorem dX9_thing_47 : decode cX9_thing 47 = .ok (.ireturn, 1) := by decide +kernel
theorem dX9_thing_48 : decode cX9_thing 48 = .ok (.aload_n 0, 1) := by decide +kernel
theorem dX9_thing_49 : decode cX9_thing 49 = .ok (.iload_n 1, 1) := by decide +kernel
theorem dX9_thing_50 : decode cX9_thing 50 = .ok (.iload_n 2, 1) := by decide +kernel
theorem dX9_thing_51 : decode cX9_thing 51 = .ok (.iload_n 3, 1) := by decide +kernel
theorem dX9_thing_52 : decode cX9_thing 52 = .ok (.invokevirtual 75, 3) := by decide +kernel
theorem dX9_thing_55 : decode cX9_thing 55 = .ok (.aload_n 0, 1) := by decide +kernel
theorem dX9_thing_56 : decode cX9_thing 56 = .ok (.getfield 7, 3) := by decide +kernel
theorem dX9_thing_59 : decode cX9_thing 59 = .ok (.iconst 1, 1) := by decide +kernel
theorem dX9_thing_60 : decode cX9_thing 60 = .ok (.iaload, 1) := by decide +kernel
theorem dX9_thing_61 : decode cX9_thing 61 = .ok (.iconst 1, 1) := by decide +kernel
theorem dX9_thing_62 : decode cX9_thing 62 = .ok (.isub, 1) := by decide +kernel
theorem dX9_thing_63 : decode cX9_thing 63 = .ok (.ireturn, 1) := by decide +kernel
set_option maxRecDepth 20000 in
theorem ggX9_of_X9_isThing : GoodIn wsX9_of wsX9_isThing := goodIn_r _ [7, 2, 8, 9, 6, 10, 23, 24, 25, 26, 27, 28, 29, 30, 31, 32, 33, 34, 35, 36, 37, 38, 39, 40, 41, 42] (by decide +kernel) (by decide +kernel)
set_option maxRecDepth 20000 in
theorem gX9_of_X9_isThing : GoodIn wsX9_of (wsV RX9 79 RX9 yX9_isThing wsX9_isThing) := goodIn_app (goodIn_of _ (by decide +kernel)) ggX9_of_X9_isThing
set_option maxRecDepth 20000 in
theorem ggX9_of_X9_in : GoodIn wsX9_of wsX9_in := goodIn_r _ [10] (by decide +kernel) (by decide +kernel)
set_option maxRecDepth 20000 in
theorem gX9_of_X9_in : GoodIn wsX9_of (va_wsS RX9 51 yX9_in wsX9_in) := goodIn_app (goodIn_of _ (by decide +kernel)) ggX9_of_X9_in
set_option maxRecDepth 20000 in
theorem ggX9_of_X9_kind : GoodIn wsX9_of wsX9_kind := goodIn_r _ [14, 2, 23, 24, 25, 26, 27, 28, 29, 30, 31, 32, 33, 34, 35, 36, 37, 38, 39, 40, 41, 42] (by decide +kernel) (by decide +kernel)
set_option maxRecDepth 20000 in
theorem gX9_of_X9_kind : GoodIn wsX9_of (wsV RX9 82 RX9 yX9_kind wsX9_kind) := goodIn_app (goodIn_of _ (by decide +kernel)) ggX9_of_X9_kind
set_option maxRecDepth 20000 in
theorem ggX9_of_X9_heavy : GoodIn wsX9_of wsX9_heavy := goodIn_r _ [18, 2, 23, 24, 25, 26, 27, 28, 29, 30, 31, 32, 33, 34, 35, 36, 37, 38, 39, 40, 41, 42] (by decide +kernel) (by decide +kernel)
set_option maxRecDepth 20000 in
theorem gX9_of_X9_heavy : GoodIn wsX9_of (wsV RX9 85 RX9 yX9_heavy wsX9_heavy) := goodIn_app (goodIn_of _ (by decide +kernel)) ggX9_of_X9_heavy
set_option maxRecDepth 20000 in
theorem ggX9_of_X9_where : GoodIn wsX9_of wsX9_where := goodIn_r _ [22, 2, 23, 24, 25, 26, 27, 28, 29, 30, 31, 32, 33, 34, 35, 36, 37, 38, 39, 40, 41, 42] (by decide +kernel) (by decide +kernel)
set_option maxRecDepth 20000 in
theorem gX9_of_X9_where : GoodIn wsX9_of (wsV RX9 55 RX9 yX9_where wsX9_where) := goodIn_app (goodIn_of _ (by decide +kernel)) ggX9_of_X9_where
theorem dX9_of_0 : decode cX9_of 0 = .ok (.aload_n 0, 1) := by decide +kernel
theorem dX9_of_1 : decode cX9_of 1 = .ok (.iload_n 1, 1) := by decide +kernel
theorem dX9_of_2 : decode cX9_of 2 = .ok (.invokevirtual 79, 3) := by decide +kernel
theorem dX9_of_5 : decode cX9_of 5 = .ok (.ifCond .eq 15, 3) := by decide +kernel
theorem dX9_of_8 : decode cX9_of 8 = .ok (.iload_n 2, 1) := by decide +kernel
theorem dX9_of_9 : decode cX9_of 9 = .ok (.i2l, 1) := by decide +kernel
theorem dX9_of_10 : decode cX9_of 10 = .ok (.lconst 0, 1) := by decide +kernel
theorem dX9_of_11 : decode cX9_of 11 = .ok (.ldc2_w 73, 3) := by decide +kernel
theorem dX9_of_14 : decode cX9_of 14 = .ok (.invokestatic 51, 3) := by decide +kernel
theorem dX9_of_17 : decode cX9_of 17 = .ok (.ifCond .ne 5, 3) := by decide +kernel
theorem dX9_of_20 : decode cX9_of 20 = .ok (.iconst (-1), 1) := by decide +kernel
theorem dX9_of_21 : decode cX9_of 21 = .ok (.ireturn, 1) := by decide +kernel
theorem dX9_of_22 : decode cX9_of 22 = .ok (.iload_n 2, 1) := by decide +kernel
theorem dX9_of_23 : decode cX9_of 23 = .ok (.tableswitch 107 0 3 #[29, 35, 41, 60], 29) := by decide +kernel
theorem dX9_of_52 : decode cX9_of 52 = .ok (.aload_n 0, 1) := by decide +kernel
theorem dX9_of_53 : decode cX9_of 53 = .ok (.iload_n 1, 1) := by decide +kernel
theorem dX9_of_54 : decode cX9_of 54 = .ok (.invokevirtual 82, 3) := by decide +kernel
theorem dX9_of_57 : decode cX9_of 57 = .ok (.ireturn, 1) := by decide +kernel
theorem dX9_of_58 : decode cX9_of 58 = .ok (.aload_n 0, 1) := by decide +kernel
theorem dX9_of_59 : decode cX9_of 59 = .ok (.iload_n 1, 1) := by decide +kernel
theorem dX9_of_60 : decode cX9_of 60 = .ok (.invokevirtual 85, 3) := by decide +kernel
theorem dX9_of_63 : decode cX9_of 63 = .ok (.ireturn, 1) := by decide +kernel
theorem dX9_of_64 : decode cX9_of 64 = .ok (.aload_n 0, 1) := by decide +kernel
theorem dX9_of_65 : decode cX9_of 65 = .ok (.iload_n 1, 1) := by decide +kernel
theorem dX9_of_66 : decode cX9_of 66 = .ok (.invokevirtual 55, 3) := by decide +kernel
theorem dX9_of_69 : decode cX9_of 69 = .ok (.ifCond .ge 8, 3) := by decide +kernel
theorem dX9_of_72 : decode cX9_of 72 = .ok (.bipush (-4), 2) := by decide +kernel
theorem dX9_of_74 : decode cX9_of 74 = .ok (.goto 8, 3) := by decide +kernel
theorem dX9_of_77 : decode cX9_of 77 = .ok (.aload_n 0, 1) := by decide +kernel
theorem dX9_of_78 : decode cX9_of 78 = .ok (.iload_n 1, 1) := by decide +kernel
theorem dX9_of_79 : decode cX9_of 79 = .ok (.invokevirtual 55, 3) := by decide +kernel
theorem dX9_of_82 : decode cX9_of 82 = .ok (.ireturn, 1) := by decide +kernel
theorem dX9_of_83 : decode cX9_of 83 = .ok (.bipush (-4), 2) := by decide +kernel
theorem dX9_of_85 : decode cX9_of 85 = .ok (.istore_n 3, 1) := by decide +kernel
theorem dX9_of_86 : decode cX9_of 86 = .ok (.iconst 0, 1) := by decide +kernel
theorem dX9_of_87 : decode cX9_of 87 = .ok (.istore 4, 2) := by decide +kernel
theorem dX9_of_89 : decode cX9_of 89 = .ok (.iload 4, 2) := by decide +kernel
theorem dX9_of_91 : decode cX9_of 91 = .ok (.aload_n 0, 1) := by decide +kernel
theorem dX9_of_92 : decode cX9_of 92 = .ok (.getfield 7, 3) := by decide +kernel
theorem dX9_of_95 : decode cX9_of 95 = .ok (.bipush 6, 2) := by decide +kernel
theorem dX9_of_97 : decode cX9_of 97 = .ok (.iaload, 1) := by decide +kernel
theorem dX9_of_98 : decode cX9_of 98 = .ok (.if_icmp .ge 30, 3) := by decide +kernel
theorem dX9_of_101 : decode cX9_of 101 = .ok (.aload_n 0, 1) := by decide +kernel
theorem dX9_of_102 : decode cX9_of 102 = .ok (.getfield 7, 3) := by decide +kernel
theorem dX9_of_105 : decode cX9_of 105 = .ok (.bipush 80, 2) := by decide +kernel
theorem dX9_of_107 : decode cX9_of 107 = .ok (.iload 4, 2) := by decide +kernel
theorem dX9_of_109 : decode cX9_of 109 = .ok (.iadd, 1) := by decide +kernel
theorem dX9_of_110 : decode cX9_of 110 = .ok (.iaload, 1) := by decide +kernel
theorem dX9_of_111 : decode cX9_of 111 = .ok (.iload_n 1, 1) := by decide +kernel
theorem dX9_of_112 : decode cX9_of 112 = .ok (.if_icmp .ne 8, 3) := by decide +kernel
theorem dX9_of_115 : decode cX9_of 115 = .ok (.iload 4, 2) := by decide +kernel
theorem dX9_of_117 : decode cX9_of 117 = .ok (.goto 4, 3) := by decide +kernel
theorem dX9_of_120 : decode cX9_of 120 = .ok (.iload_n 3, 1) := by decide +kernel
theorem dX9_of_121 : decode cX9_of 121 = .ok (.istore_n 3, 1) := by decide +kernel
theorem dX9_of_122 : decode cX9_of 122 = .ok (.iinc 4 1, 3) := by decide +kernel
theorem dX9_of_125 : decode cX9_of 125 = .ok (.goto (-36), 3) := by decide +kernel
theorem dX9_of_128 : decode cX9_of 128 = .ok (.iload_n 3, 1) := by decide +kernel
theorem dX9_of_129 : decode cX9_of 129 = .ok (.ireturn, 1) := by decide +kernel
theorem dX9_of_130 : decode cX9_of 130 = .ok (.aload_n 0, 1) := by decide +kernel
theorem dX9_of_131 : decode cX9_of 131 = .ok (.iload_n 1, 1) := by decide +kernel
theorem dX9_of_132 : decode cX9_of 132 = .ok (.invokevirtual 55, 3) := by decide +kernel
theorem dX9_of_135 : decode cX9_of 135 = .ok (.bipush (-2), 2) := by decide +kernel
theorem dX9_of_137 : decode cX9_of 137 = .ok (.if_icmp .ne 7, 3) := by decide +kernel
theorem dX9_of_140 : decode cX9_of 140 = .ok (.iconst 1, 1) := by decide +kernel
theorem dX9_of_141 : decode cX9_of 141 = .ok (.goto 4, 3) := by decide +kernel
theorem dX9_of_144 : decode cX9_of 144 = .ok (.iconst 0, 1) := by decide +kernel
theorem dX9_of_145 : decode cX9_of 145 = .ok (.ireturn, 1) := by decide +kernel
set_option maxRecDepth 20000 in
theorem ggX9_count_X9_thoseAt : GoodIn wsX9_count wsX9_thoseAt := goodIn_r _ [7, 1, 8, 9, 10, 6, 11, 16, 17, 18, 19, 20, 21, 22, 23, 24, 25, 26, 27, 28, 29, 30, 31, 32, 33, 34, 35] (by decide +kernel) (by decide +kernel)
set_option maxRecDepth 20000 in
theorem gX9_count_X9_thoseAt : GoodIn wsX9_count (wsV RX9 67 RX9 yX9_thoseAt wsX9_thoseAt) := goodIn_app (goodIn_of _ (by decide +kernel)) ggX9_count_X9_thoseAt
set_option maxRecDepth 20000 in
theorem ggX9_count_X9_snowOfAll : GoodIn wsX9_count wsX9_snowOfAll := goodIn_r _ [15, 1, 16, 17, 18, 19, 20, 21, 22, 23, 24, 25, 26, 27, 28, 29, 30, 31, 32, 33, 34, 35] (by decide +kernel) (by decide +kernel)
set_option maxRecDepth 20000 in
theorem gX9_count_X9_snowOfAll : GoodIn wsX9_count (wsV RX9 88 RX9 yX9_snowOfAll wsX9_snowOfAll) := goodIn_app (goodIn_of _ (by decide +kernel)) ggX9_count_X9_snowOfAll
theorem dX9_count_0 : decode cX9_count 0 = .ok (.iload_n 1, 1) := by decide +kernel
theorem dX9_count_1 : decode cX9_count 1 = .ok (.tableswitch 74 0 8 #[51, 51, 51, 51, 51, 51, 58, 64, 69], 51) := by decide +kernel
theorem dX9_count_52 : decode cX9_count 52 = .ok (.aload_n 0, 1) := by decide +kernel
theorem dX9_count_53 : decode cX9_count 53 = .ok (.getfield 7, 3) := by decide +kernel
theorem dX9_count_56 : decode cX9_count 56 = .ok (.iload_n 1, 1) := by decide +kernel
theorem dX9_count_57 : decode cX9_count 57 = .ok (.iaload, 1) := by decide +kernel
theorem dX9_count_58 : decode cX9_count 58 = .ok (.ireturn, 1) := by decide +kernel
theorem dX9_count_59 : decode cX9_count 59 = .ok (.aload_n 0, 1) := by decide +kernel
theorem dX9_count_60 : decode cX9_count 60 = .ok (.iconst (-1), 1) := by decide +kernel
theorem dX9_count_61 : decode cX9_count 61 = .ok (.invokevirtual 67, 3) := by decide +kernel
theorem dX9_count_64 : decode cX9_count 64 = .ok (.ireturn, 1) := by decide +kernel
theorem dX9_count_65 : decode cX9_count 65 = .ok (.aload_n 0, 1) := by decide +kernel
theorem dX9_count_66 : decode cX9_count 66 = .ok (.invokevirtual 88, 3) := by decide +kernel
theorem dX9_count_69 : decode cX9_count 69 = .ok (.ireturn, 1) := by decide +kernel
theorem dX9_count_70 : decode cX9_count 70 = .ok (.aload_n 0, 1) := by decide +kernel
theorem dX9_count_71 : decode cX9_count 71 = .ok (.getfield 70, 3) := by decide +kernel
theorem dX9_count_74 : decode cX9_count 74 = .ok (.ireturn, 1) := by decide +kernel
theorem dX9_count_75 : decode cX9_count 75 = .ok (.iconst (-1), 1) := by decide +kernel
theorem dX9_count_76 : decode cX9_count 76 = .ok (.ireturn, 1) := by decide +kernel
set_option maxRecDepth 20000 in
theorem ggX9_type_X9_in : GoodIn wsX9_type wsX9_in := goodIn_r _ [8] (by decide +kernel) (by decide +kernel)
set_option maxRecDepth 20000 in
theorem gX9_type_X9_in : GoodIn wsX9_type (va_wsS RX9 51 yX9_in wsX9_in) := goodIn_app (goodIn_of _ (by decide +kernel)) ggX9_type_X9_in
theorem dX9_type_0 : decode cX9_type 0 = .ok (.iload_n 1, 1) := by decide +kernel
theorem dX9_type_1 : decode cX9_type 1 = .ok (.i2l, 1) := by decide +kernel
theorem dX9_type_2 : decode cX9_type 2 = .ok (.ldc2_w 92, 3) := by decide +kernel
theorem dX9_type_5 : decode cX9_type 5 = .ok (.ldc2_w 94, 3) := by decide +kernel
theorem dX9_type_8 : decode cX9_type 8 = .ok (.invokestatic 51, 3) := by decide +kernel
theorem dX9_type_11 : decode cX9_type 11 = .ok (.ifCond .ne 5, 3) := by decide +kernel
theorem dX9_type_14 : decode cX9_type 14 = .ok (.iconst (-1), 1) := by decide +kernel
theorem dX9_type_15 : decode cX9_type 15 = .ok (.ireturn, 1) := by decide +kernel
theorem dX9_type_16 : decode cX9_type 16 = .ok (.aload_n 0, 1) := by decide +kernel
theorem dX9_type_17 : decode cX9_type 17 = .ok (.getfield 96, 3) := by decide +kernel
theorem dX9_type_20 : decode cX9_type 20 = .ok (.sipush 130, 3) := by decide +kernel
theorem dX9_type_23 : decode cX9_type 23 = .ok (.if_icmp .ne 6, 3) := by decide +kernel
theorem dX9_type_26 : decode cX9_type 26 = .ok (.bipush (-3), 2) := by decide +kernel
theorem dX9_type_28 : decode cX9_type 28 = .ok (.ireturn, 1) := by decide +kernel
theorem dX9_type_29 : decode cX9_type 29 = .ok (.aload_n 0, 1) := by decide +kernel
theorem dX9_type_30 : decode cX9_type 30 = .ok (.getfield 13, 3) := by decide +kernel
theorem dX9_type_33 : decode cX9_type 33 = .ok (.aload_n 0, 1) := by decide +kernel
theorem dX9_type_34 : decode cX9_type 34 = .ok (.getfield 96, 3) := by decide +kernel
theorem dX9_type_37 : decode cX9_type 37 = .ok (.iload_n 1, 1) := by decide +kernel
theorem dX9_type_38 : decode cX9_type 38 = .ok (.iastore, 1) := by decide +kernel
theorem dX9_type_39 : decode cX9_type 39 = .ok (.aload_n 0, 1) := by decide +kernel
theorem dX9_type_40 : decode cX9_type 40 = .ok (.dup, 1) := by decide +kernel
theorem dX9_type_41 : decode cX9_type 41 = .ok (.getfield 96, 3) := by decide +kernel
theorem dX9_type_44 : decode cX9_type 44 = .ok (.iconst 1, 1) := by decide +kernel
theorem dX9_type_45 : decode cX9_type 45 = .ok (.iadd, 1) := by decide +kernel
theorem dX9_type_46 : decode cX9_type 46 = .ok (.putfield 96, 3) := by decide +kernel
theorem dX9_type_49 : decode cX9_type 49 = .ok (.aload_n 0, 1) := by decide +kernel
theorem dX9_type_50 : decode cX9_type 50 = .ok (.getfield 96, 3) := by decide +kernel
theorem dX9_type_53 : decode cX9_type 53 = .ok (.ireturn, 1) := by decide +kernel
theorem dX9_here_0 : decode cX9_here 0 = .ok (.aload_n 0, 1) := by decide +kernel
theorem dX9_here_1 : decode cX9_here 1 = .ok (.getfield 99, 3) := by decide +kernel
theorem dX9_here_4 : decode cX9_here 4 = .ok (.aload_n 0, 1) := by decide +kernel
theorem dX9_here_5 : decode cX9_here 5 = .ok (.getfield 96, 3) := by decide +kernel
theorem dX9_here_8 : decode cX9_here 8 = .ok (.if_icmp .ge 30, 3) := by decide +kernel
theorem dX9_here_11 : decode cX9_here 11 = .ok (.aload_n 0, 1) := by decide +kernel
theorem dX9_here_12 : decode cX9_here 12 = .ok (.getfield 13, 3) := by decide +kernel
theorem dX9_here_15 : decode cX9_here 15 = .ok (.aload_n 0, 1) := by decide +kernel
theorem dX9_here_16 : decode cX9_here 16 = .ok (.getfield 99, 3) := by decide +kernel
theorem dX9_here_19 : decode cX9_here 19 = .ok (.iaload, 1) := by decide +kernel
theorem dX9_here_20 : decode cX9_here 20 = .ok (.bipush 32, 2) := by decide +kernel
theorem dX9_here_22 : decode cX9_here 22 = .ok (.if_icmp .ne 16, 3) := by decide +kernel
theorem dX9_here_25 : decode cX9_here 25 = .ok (.aload_n 0, 1) := by decide +kernel
theorem dX9_here_26 : decode cX9_here 26 = .ok (.dup, 1) := by decide +kernel
theorem dX9_here_27 : decode cX9_here 27 = .ok (.getfield 99, 3) := by decide +kernel
theorem dX9_here_30 : decode cX9_here 30 = .ok (.iconst 1, 1) := by decide +kernel
theorem dX9_here_31 : decode cX9_here 31 = .ok (.iadd, 1) := by decide +kernel
theorem dX9_here_32 : decode cX9_here 32 = .ok (.putfield 99, 3) := by decide +kernel
theorem dX9_here_35 : decode cX9_here 35 = .ok (.goto (-35), 3) := by decide +kernel
theorem dX9_here_38 : decode cX9_here 38 = .ok (.aload_n 0, 1) := by decide +kernel
theorem dX9_here_39 : decode cX9_here 39 = .ok (.getfield 99, 3) := by decide +kernel
theorem dX9_here_42 : decode cX9_here 42 = .ok (.aload_n 0, 1) := by decide +kernel
theorem dX9_here_43 : decode cX9_here 43 = .ok (.getfield 96, 3) := by decide +kernel
theorem dX9_here_46 : decode cX9_here 46 = .ok (.if_icmp .ge 15, 3) := by decide +kernel
theorem dX9_here_49 : decode cX9_here 49 = .ok (.aload_n 0, 1) := by decide +kernel
theorem dX9_here_50 : decode cX9_here 50 = .ok (.getfield 13, 3) := by decide +kernel
theorem dX9_here_53 : decode cX9_here 53 = .ok (.aload_n 0, 1) := by decide +kernel
theorem dX9_here_54 : decode cX9_here 54 = .ok (.getfield 99, 3) := by decide +kernel
theorem dX9_here_57 : decode cX9_here 57 = .ok (.iaload, 1) := by decide +kernel
theorem dX9_here_58 : decode cX9_here 58 = .ok (.goto 4, 3) := by decide +kernel
theorem dX9_here_61 : decode cX9_here 61 = .ok (.iconst 0, 1) := by decide +kernel
theorem dX9_here_62 : decode cX9_here 62 = .ok (.ireturn, 1) := by decide +kernel
theorem dX9_must_0 : decode cX9_must 0 = .ok (.aload_n 0, 1) := by decide +kernel
theorem dX9_must_1 : decode cX9_must 1 = .ok (.aload_n 0, 1) := by decide +kernel
theorem dX9_must_2 : decode cX9_must 2 = .ok (.getfield 102, 3) := by decide +kernel
theorem dX9_must_5 : decode cX9_must 5 = .ok (.ifCond .ne 7, 3) := by decide +kernel
theorem dX9_must_8 : decode cX9_must 8 = .ok (.iload_n 1, 1) := by decide +kernel
theorem dX9_must_9 : decode cX9_must 9 = .ok (.ifCond .ne 7, 3) := by decide +kernel
theorem dX9_must_12 : decode cX9_must 12 = .ok (.iconst 1, 1) := by decide +kernel
theorem dX9_must_13 : decode cX9_must 13 = .ok (.goto 4, 3) := by decide +kernel
theorem dX9_must_16 : decode cX9_must 16 = .ok (.iconst 0, 1) := by decide +kernel
theorem dX9_must_17 : decode cX9_must 17 = .ok (.putfield 102, 3) := by decide +kernel
theorem dX9_must_20 : decode cX9_must 20 = .ok (.aload_n 0, 1) := by decide +kernel
theorem dX9_must_21 : decode cX9_must 21 = .ok (.dup, 1) := by decide +kernel
theorem dX9_must_22 : decode cX9_must 22 = .ok (.getfield 99, 3) := by decide +kernel
theorem dX9_must_25 : decode cX9_must 25 = .ok (.aload_n 0, 1) := by decide +kernel
theorem dX9_must_26 : decode cX9_must 26 = .ok (.getfield 102, 3) := by decide +kernel
theorem dX9_must_29 : decode cX9_must 29 = .ok (.ifCond .eq 7, 3) := by decide +kernel
theorem dX9_must_32 : decode cX9_must 32 = .ok (.iconst 0, 1) := by decide +kernel
theorem dX9_must_33 : decode cX9_must 33 = .ok (.goto 4, 3) := by decide +kernel
theorem dX9_must_36 : decode cX9_must 36 = .ok (.iconst 1, 1) := by decide +kernel
theorem dX9_must_37 : decode cX9_must 37 = .ok (.iadd, 1) := by decide +kernel
theorem dX9_must_38 : decode cX9_must 38 = .ok (.putfield 99, 3) := by decide +kernel
theorem dX9_must_41 : decode cX9_must 41 = .ok (.return_, 1) := by decide +kernel
set_option maxRecDepth 20000 in
theorem ggX9_digit_X9_here : GoodIn wsX9_digit wsX9_here := goodIn_r _ [7, 8, 9, 10, 18, 19, 20, 21, 22, 23, 24, 25, 26, 27, 28, 29, 30, 31, 32, 33, 34, 35, 36, 37] (by decide +kernel) (by decide +kernel)
set_option maxRecDepth 20000 in
theorem gX9_digit_X9_here : GoodIn wsX9_digit (wsV RX9 106 RX9 yX9_here wsX9_here) := goodIn_app (goodIn_of _ (by decide +kernel)) ggX9_digit_X9_here
set_option maxRecDepth 20000 in
theorem ggX9_digit_X9_in : GoodIn wsX9_digit wsX9_in := goodIn_r _ [13] (by decide +kernel) (by decide +kernel)
set_option maxRecDepth 20000 in
theorem gX9_digit_X9_in : GoodIn wsX9_digit (va_wsS RX9 51 yX9_in wsX9_in) := goodIn_app (goodIn_of _ (by decide +kernel)) ggX9_digit_X9_in
set_option maxRecDepth 20000 in
theorem ggX9_digit_X9_must : GoodIn wsX9_digit wsX9_must := goodIn_r _ [17, 1, 8, 18, 19, 20, 21, 22, 23, 24, 25, 26, 27, 28, 29, 30, 31, 32, 33, 34, 35, 36, 37] (by decide +kernel) (by decide +kernel)
set_option maxRecDepth 20000 in
theorem gX9_digit_X9_must : GoodIn wsX9_digit (wsV RX9 109 RX9 yX9_must wsX9_must) := goodIn_app (goodIn_of _ (by decide +kernel)) ggX9_digit_X9_must
theorem dX9_digit_0 : decode cX9_digit 0 = .ok (.aload_n 0, 1) := by decide +kernel
theorem dX9_digit_1 : decode cX9_digit 1 = .ok (.getfield 102, 3) := by decide +kernel
theorem dX9_digit_4 : decode cX9_digit 4 = .ok (.ifCond .eq 7, 3) := by decide +kernel
theorem dX9_digit_7 : decode cX9_digit 7 = .ok (.iconst (-1), 1) := by decide +kernel
theorem dX9_digit_8 : decode cX9_digit 8 = .ok (.goto 10, 3) := by decide +kernel
theorem dX9_digit_11 : decode cX9_digit 11 = .ok (.aload_n 0, 1) := by decide +kernel
theorem dX9_digit_12 : decode cX9_digit 12 = .ok (.invokevirtual 106, 3) := by decide +kernel
theorem dX9_digit_15 : decode cX9_digit 15 = .ok (.bipush 48, 2) := by decide +kernel
theorem dX9_digit_17 : decode cX9_digit 17 = .ok (.isub, 1) := by decide +kernel
theorem dX9_digit_18 : decode cX9_digit 18 = .ok (.istore_n 1, 1) := by decide +kernel
theorem dX9_digit_19 : decode cX9_digit 19 = .ok (.aload_n 0, 1) := by decide +kernel
theorem dX9_digit_20 : decode cX9_digit 20 = .ok (.iload_n 1, 1) := by decide +kernel
theorem dX9_digit_21 : decode cX9_digit 21 = .ok (.i2l, 1) := by decide +kernel
theorem dX9_digit_22 : decode cX9_digit 22 = .ok (.lconst 0, 1) := by decide +kernel
theorem dX9_digit_23 : decode cX9_digit 23 = .ok (.ldc2_w 63, 3) := by decide +kernel
theorem dX9_digit_26 : decode cX9_digit 26 = .ok (.invokestatic 51, 3) := by decide +kernel
theorem dX9_digit_29 : decode cX9_digit 29 = .ok (.invokevirtual 109, 3) := by decide +kernel
theorem dX9_digit_32 : decode cX9_digit 32 = .ok (.iload_n 1, 1) := by decide +kernel
theorem dX9_digit_33 : decode cX9_digit 33 = .ok (.ireturn, 1) := by decide +kernel
set_option maxRecDepth 20000 in
theorem ggX9_number_X9_here : GoodIn wsX9_number wsX9_here := goodIn_r _ [11, 2, 5, 6, 15, 16, 17, 18, 19, 20, 21, 22, 23, 24, 25, 26, 27, 28, 29, 30, 31, 32, 33, 34] (by decide +kernel) (by decide +kernel)
set_option maxRecDepth 20000 in
theorem gX9_number_X9_here : GoodIn wsX9_number (wsV RX9 106 RX9 yX9_here wsX9_here) := goodIn_app (goodIn_of _ (by decide +kernel)) ggX9_number_X9_here
set_option maxRecDepth 20000 in
theorem ggX9_number_X9_in : GoodIn wsX9_number wsX9_in := goodIn_r _ [14] (by decide +kernel) (by decide +kernel)
set_option maxRecDepth 20000 in
theorem gX9_number_X9_in : GoodIn wsX9_number (va_wsS RX9 51 yX9_in wsX9_in) := goodIn_app (goodIn_of _ (by decide +kernel)) ggX9_number_X9_in
theorem dX9_number_0 : decode cX9_number 0 = .ok (.aload_n 0, 1) := by decide +kernel
theorem dX9_number_1 : decode cX9_number 1 = .ok (.getfield 102, 3) := by decide +kernel
theorem dX9_number_4 : decode cX9_number 4 = .ok (.ifCond .eq 7, 3) := by decide +kernel
theorem dX9_number_7 : decode cX9_number 7 = .ok (.iconst 0, 1) := by decide +kernel
theorem dX9_number_8 : decode cX9_number 8 = .ok (.goto 7, 3) := by decide +kernel
theorem dX9_number_11 : decode cX9_number 11 = .ok (.aload_n 0, 1) := by decide +kernel
theorem dX9_number_12 : decode cX9_number 12 = .ok (.invokevirtual 106, 3) := by decide +kernel
theorem dX9_number_15 : decode cX9_number 15 = .ok (.istore_n 2, 1) := by decide +kernel
theorem dX9_number_16 : decode cX9_number 16 = .ok (.aload_n 0, 1) := by decide +kernel
theorem dX9_number_17 : decode cX9_number 17 = .ok (.getfield 99, 3) := by decide +kernel
theorem dX9_number_20 : decode cX9_number 20 = .ok (.istore_n 3, 1) := by decide +kernel
theorem dX9_number_21 : decode cX9_number 21 = .ok (.iconst 0, 1) := by decide +kernel
theorem dX9_number_22 : decode cX9_number 22 = .ok (.istore 4, 2) := by decide +kernel
theorem dX9_number_24 : decode cX9_number 24 = .ok (.aload_n 0, 1) := by decide +kernel
theorem dX9_number_25 : decode cX9_number 25 = .ok (.aload_n 0, 1) := by decide +kernel
theorem dX9_number_26 : decode cX9_number 26 = .ok (.getfield 102, 3) := by decide +kernel
theorem dX9_number_29 : decode cX9_number 29 = .ok (.ifCond .ne 17, 3) := by decide +kernel
theorem dX9_number_32 : decode cX9_number 32 = .ok (.iload_n 2, 1) := by decide +kernel
theorem dX9_number_33 : decode cX9_number 33 = .ok (.i2l, 1) := by decide +kernel
theorem dX9_number_34 : decode cX9_number 34 = .ok (.ldc2_w 113, 3) := by decide +kernel
theorem dX9_number_37 : decode cX9_number 37 = .ok (.ldc2_w 115, 3) := by decide +kernel
theorem dX9_number_40 : decode cX9_number 40 = .ok (.invokestatic 51, 3) := by decide +kernel
theorem dX9_number_43 : decode cX9_number 43 = .ok (.ifCond .ne 7, 3) := by decide +kernel
theorem dX9_number_46 : decode cX9_number 46 = .ok (.iconst 1, 1) := by decide +kernel
theorem dX9_number_47 : decode cX9_number 47 = .ok (.goto 4, 3) := by decide +kernel
theorem dX9_number_50 : decode cX9_number 50 = .ok (.iconst 0, 1) := by decide +kernel
theorem dX9_number_51 : decode cX9_number 51 = .ok (.putfield 102, 3) := by decide +kernel
theorem dX9_number_54 : decode cX9_number 54 = .ok (.aload_n 0, 1) := by decide +kernel
theorem dX9_number_55 : decode cX9_number 55 = .ok (.getfield 102, 3) := by decide +kernel
theorem dX9_number_58 : decode cX9_number 58 = .ok (.ifCond .ne 79, 3) := by decide +kernel
theorem dX9_number_61 : decode cX9_number 61 = .ok (.aload_n 0, 1) := by decide +kernel
theorem dX9_number_62 : decode cX9_number 62 = .ok (.getfield 99, 3) := by decide +kernel
theorem dX9_number_65 : decode cX9_number 65 = .ok (.aload_n 0, 1) := by decide +kernel
theorem dX9_number_66 : decode cX9_number 66 = .ok (.getfield 96, 3) := by decide +kernel
theorem dX9_number_69 : decode cX9_number 69 = .ok (.if_icmp .ge 68, 3) := by decide +kernel
theorem dX9_number_72 : decode cX9_number 72 = .ok (.aload_n 0, 1) := by decide +kernel
theorem dX9_number_73 : decode cX9_number 73 = .ok (.getfield 99, 3) := by decide +kernel
theorem dX9_number_76 : decode cX9_number 76 = .ok (.iload_n 3, 1) := by decide +kernel
theorem dX9_number_77 : decode cX9_number 77 = .ok (.isub, 1) := by decide +kernel
theorem dX9_number_78 : decode cX9_number 78 = .ok (.iconst 2, 1) := by decide +kernel
theorem dX9_number_79 : decode cX9_number 79 = .ok (.if_icmp .ge 58, 3) := by decide +kernel
theorem dX9_number_82 : decode cX9_number 82 = .ok (.aload_n 0, 1) := by decide +kernel
theorem dX9_number_83 : decode cX9_number 83 = .ok (.getfield 13, 3) := by decide +kernel
theorem dX9_number_86 : decode cX9_number 86 = .ok (.aload_n 0, 1) := by decide +kernel
theorem dX9_number_87 : decode cX9_number 87 = .ok (.getfield 99, 3) := by decide +kernel
theorem dX9_number_90 : decode cX9_number 90 = .ok (.iaload, 1) := by decide +kernel
theorem dX9_number_91 : decode cX9_number 91 = .ok (.i2l, 1) := by decide +kernel
theorem dX9_number_92 : decode cX9_number 92 = .ok (.ldc2_w 113, 3) := by decide +kernel
theorem dX9_number_95 : decode cX9_number 95 = .ok (.ldc2_w 115, 3) := by decide +kernel
theorem dX9_number_98 : decode cX9_number 98 = .ok (.invokestatic 51, 3) := by decide +kernel
theorem dX9_number_101 : decode cX9_number 101 = .ok (.ifCond .eq 36, 3) := by decide +kernel
theorem dX9_number_104 : decode cX9_number 104 = .ok (.bipush 10, 2) := by decide +kernel
theorem dX9_number_106 : decode cX9_number 106 = .ok (.iload 4, 2) := by decide +kernel
theorem dX9_number_108 : decode cX9_number 108 = .ok (.imul, 1) := by decide +kernel
theorem dX9_number_109 : decode cX9_number 109 = .ok (.aload_n 0, 1) := by decide +kernel
theorem dX9_number_110 : decode cX9_number 110 = .ok (.getfield 13, 3) := by decide +kernel
theorem dX9_number_113 : decode cX9_number 113 = .ok (.aload_n 0, 1) := by decide +kernel
theorem dX9_number_114 : decode cX9_number 114 = .ok (.getfield 99, 3) := by decide +kernel
theorem dX9_number_117 : decode cX9_number 117 = .ok (.iaload, 1) := by decide +kernel
theorem dX9_number_118 : decode cX9_number 118 = .ok (.iadd, 1) := by decide +kernel
theorem dX9_number_119 : decode cX9_number 119 = .ok (.bipush 48, 2) := by decide +kernel
theorem dX9_number_121 : decode cX9_number 121 = .ok (.isub, 1) := by decide +kernel
theorem dX9_number_122 : decode cX9_number 122 = .ok (.istore 4, 2) := by decide +kernel
theorem dX9_number_124 : decode cX9_number 124 = .ok (.aload_n 0, 1) := by decide +kernel
theorem dX9_number_125 : decode cX9_number 125 = .ok (.dup, 1) := by decide +kernel
theorem dX9_number_126 : decode cX9_number 126 = .ok (.getfield 99, 3) := by decide +kernel
theorem dX9_number_129 : decode cX9_number 129 = .ok (.iconst 1, 1) := by decide +kernel
theorem dX9_number_130 : decode cX9_number 130 = .ok (.iadd, 1) := by decide +kernel
theorem dX9_number_131 : decode cX9_number 131 = .ok (.putfield 99, 3) := by decide +kernel
theorem dX9_number_134 : decode cX9_number 134 = .ok (.goto (-80), 3) := by decide +kernel
theorem dX9_number_137 : decode cX9_number 137 = .ok (.aload_n 0, 1) := by decide +kernel
theorem dX9_number_138 : decode cX9_number 138 = .ok (.getfield 102, 3) := by decide +kernel
theorem dX9_number_141 : decode cX9_number 141 = .ok (.ifCond .ne 19, 3) := by decide +kernel
theorem dX9_number_144 : decode cX9_number 144 = .ok (.iload 4, 2) := by decide +kernel
theorem dX9_number_146 : decode cX9_number 146 = .ok (.iload_n 1, 1) := by decide +kernel
theorem dX9_number_147 : decode cX9_number 147 = .ok (.if_icmp .le 13, 3) := by decide +kernel
theorem dX9_number_150 : decode cX9_number 150 = .ok (.aload_n 0, 1) := by decide +kernel
theorem dX9_number_151 : decode cX9_number 151 = .ok (.iconst 1, 1) := by decide +kernel
theorem dX9_number_152 : decode cX9_number 152 = .ok (.putfield 102, 3) := by decide +kernel
theorem dX9_number_155 : decode cX9_number 155 = .ok (.aload_n 0, 1) := by decide +kernel
theorem dX9_number_156 : decode cX9_number 156 = .ok (.iload_n 3, 1) := by decide +kernel
theorem dX9_number_157 : decode cX9_number 157 = .ok (.putfield 99, 3) := by decide +kernel
theorem dX9_number_160 : decode cX9_number 160 = .ok (.iload 4, 2) := by decide +kernel
theorem dX9_number_162 : decode cX9_number 162 = .ok (.ireturn, 1) := by decide +kernel
set_option maxRecDepth 20000 in
theorem ggX9_readSlope_X9_here : GoodIn wsX9_readSlope wsX9_here := goodIn_r _ [7, 8, 9, 10, 23, 24, 25, 26, 27, 28, 29, 30, 31, 32, 33, 34, 35, 36, 37, 38, 39, 40, 41, 42] (by decide +kernel) (by decide +kernel)
set_option maxRecDepth 20000 in
theorem gX9_readSlope_X9_here : GoodIn wsX9_readSlope (wsV RX9 106 RX9 yX9_here wsX9_here) := goodIn_app (goodIn_of _ (by decide +kernel)) ggX9_readSlope_X9_here
set_option maxRecDepth 20000 in
theorem ggX9_readSlope_X9_must : GoodIn wsX9_readSlope wsX9_must := goodIn_r _ [14, 1, 8, 23, 24, 25, 26, 27, 28, 29, 30, 31, 32, 33, 34, 35, 36, 37, 38, 39, 40, 41, 42] (by decide +kernel) (by decide +kernel)
set_option maxRecDepth 20000 in
theorem gX9_readSlope_X9_must : GoodIn wsX9_readSlope (wsV RX9 109 RX9 yX9_must wsX9_must) := goodIn_app (goodIn_of _ (by decide +kernel)) ggX9_readSlope_X9_must
set_option maxRecDepth 20000 in
theorem ggX9_readSlope_X9_digit : GoodIn wsX9_readSlope wsX9_digit := goodIn_r _ [18, 1, 19, 3, 4, 5, 6, 7, 8, 9, 10, 20, 21, 22, 11, 12, 13, 14, 23, 24, 25, 26, 27, 28, 29, 30, 31, 32, 33, 34, 35, 36, 37, 38, 39, 40, 41, 42] (by decide +kernel) (by decide +kernel)
set_option maxRecDepth 20000 in
theorem gX9_readSlope_X9_digit : GoodIn wsX9_readSlope (wsV RX9 117 RX9 yX9_digit wsX9_digit) := goodIn_app (goodIn_of _ (by decide +kernel)) ggX9_readSlope_X9_digit
theorem dX9_readSlope_0 : decode cX9_readSlope 0 = .ok (.iconst 0, 1) := by decide +kernel
theorem dX9_readSlope_1 : decode cX9_readSlope 1 = .ok (.istore_n 1, 1) := by decide +kernel
theorem dX9_readSlope_2 : decode cX9_readSlope 2 = .ok (.aload_n 0, 1) := by decide +kernel
theorem dX9_readSlope_3 : decode cX9_readSlope 3 = .ok (.getfield 102, 3) := by decide +kernel
theorem dX9_readSlope_6 : decode cX9_readSlope 6 = .ok (.ifCond .ne 88, 3) := by decide +kernel
theorem dX9_readSlope_9 : decode cX9_readSlope 9 = .ok (.iload_n 1, 1) := by decide +kernel
theorem dX9_readSlope_10 : decode cX9_readSlope 10 = .ok (.iconst 4, 1) := by decide +kernel
theorem dX9_readSlope_11 : decode cX9_readSlope 11 = .ok (.if_icmp .lt 12, 3) := by decide +kernel
theorem dX9_readSlope_14 : decode cX9_readSlope 14 = .ok (.aload_n 0, 1) := by decide +kernel
theorem dX9_readSlope_15 : decode cX9_readSlope 15 = .ok (.invokevirtual 106, 3) := by decide +kernel
theorem dX9_readSlope_18 : decode cX9_readSlope 18 = .ok (.bipush 44, 2) := by decide +kernel
theorem dX9_readSlope_20 : decode cX9_readSlope 20 = .ok (.if_icmp .ne 74, 3) := by decide +kernel
theorem dX9_readSlope_23 : decode cX9_readSlope 23 = .ok (.iload_n 1, 1) := by decide +kernel
theorem dX9_readSlope_24 : decode cX9_readSlope 24 = .ok (.ifCond .le 27, 3) := by decide +kernel
theorem dX9_readSlope_27 : decode cX9_readSlope 27 = .ok (.aload_n 0, 1) := by decide +kernel
theorem dX9_readSlope_28 : decode cX9_readSlope 28 = .ok (.iload_n 1, 1) := by decide +kernel
theorem dX9_readSlope_29 : decode cX9_readSlope 29 = .ok (.bipush 24, 2) := by decide +kernel
theorem dX9_readSlope_31 : decode cX9_readSlope 31 = .ok (.if_icmp .ge 16, 3) := by decide +kernel
theorem dX9_readSlope_34 : decode cX9_readSlope 34 = .ok (.aload_n 0, 1) := by decide +kernel
theorem dX9_readSlope_35 : decode cX9_readSlope 35 = .ok (.invokevirtual 106, 3) := by decide +kernel
theorem dX9_readSlope_38 : decode cX9_readSlope 38 = .ok (.bipush 44, 2) := by decide +kernel
theorem dX9_readSlope_40 : decode cX9_readSlope 40 = .ok (.if_icmp .ne 7, 3) := by decide +kernel
theorem dX9_readSlope_43 : decode cX9_readSlope 43 = .ok (.iconst 1, 1) := by decide +kernel
theorem dX9_readSlope_44 : decode cX9_readSlope 44 = .ok (.goto 4, 3) := by decide +kernel
theorem dX9_readSlope_47 : decode cX9_readSlope 47 = .ok (.iconst 0, 1) := by decide +kernel
theorem dX9_readSlope_48 : decode cX9_readSlope 48 = .ok (.invokevirtual 109, 3) := by decide +kernel
theorem dX9_readSlope_51 : decode cX9_readSlope 51 = .ok (.aload_n 0, 1) := by decide +kernel
theorem dX9_readSlope_52 : decode cX9_readSlope 52 = .ok (.invokevirtual 117, 3) := by decide +kernel
theorem dX9_readSlope_55 : decode cX9_readSlope 55 = .ok (.istore_n 2, 1) := by decide +kernel
theorem dX9_readSlope_56 : decode cX9_readSlope 56 = .ok (.aload_n 0, 1) := by decide +kernel
theorem dX9_readSlope_57 : decode cX9_readSlope 57 = .ok (.invokevirtual 117, 3) := by decide +kernel
theorem dX9_readSlope_60 : decode cX9_readSlope 60 = .ok (.istore_n 3, 1) := by decide +kernel
theorem dX9_readSlope_61 : decode cX9_readSlope 61 = .ok (.aload_n 0, 1) := by decide +kernel
theorem dX9_readSlope_62 : decode cX9_readSlope 62 = .ok (.getfield 102, 3) := by decide +kernel
theorem dX9_readSlope_65 : decode cX9_readSlope 65 = .ok (.ifCond .ne 23, 3) := by decide +kernel
theorem dX9_readSlope_68 : decode cX9_readSlope 68 = .ok (.aload_n 0, 1) := by decide +kernel
theorem dX9_readSlope_69 : decode cX9_readSlope 69 = .ok (.getfield 16, 3) := by decide +kernel
theorem dX9_readSlope_72 : decode cX9_readSlope 72 = .ok (.iconst 2, 1) := by decide +kernel
theorem dX9_readSlope_73 : decode cX9_readSlope 73 = .ok (.iload_n 1, 1) := by decide +kernel
theorem dX9_readSlope_74 : decode cX9_readSlope 74 = .ok (.imul, 1) := by decide +kernel
theorem dX9_readSlope_75 : decode cX9_readSlope 75 = .ok (.iload_n 2, 1) := by decide +kernel
theorem dX9_readSlope_76 : decode cX9_readSlope 76 = .ok (.iastore, 1) := by decide +kernel
theorem dX9_readSlope_77 : decode cX9_readSlope 77 = .ok (.aload_n 0, 1) := by decide +kernel
theorem dX9_readSlope_78 : decode cX9_readSlope 78 = .ok (.getfield 16, 3) := by decide +kernel
theorem dX9_readSlope_81 : decode cX9_readSlope 81 = .ok (.iconst 2, 1) := by decide +kernel
theorem dX9_readSlope_82 : decode cX9_readSlope 82 = .ok (.iload_n 1, 1) := by decide +kernel
theorem dX9_readSlope_83 : decode cX9_readSlope 83 = .ok (.imul, 1) := by decide +kernel
theorem dX9_readSlope_84 : decode cX9_readSlope 84 = .ok (.iconst 1, 1) := by decide +kernel
theorem dX9_readSlope_85 : decode cX9_readSlope 85 = .ok (.iadd, 1) := by decide +kernel
theorem dX9_readSlope_86 : decode cX9_readSlope 86 = .ok (.iload_n 3, 1) := by decide +kernel
theorem dX9_readSlope_87 : decode cX9_readSlope 87 = .ok (.iastore, 1) := by decide +kernel
theorem dX9_readSlope_88 : decode cX9_readSlope 88 = .ok (.iinc 1 1, 3) := by decide +kernel
theorem dX9_readSlope_91 : decode cX9_readSlope 91 = .ok (.goto (-89), 3) := by decide +kernel
theorem dX9_readSlope_94 : decode cX9_readSlope 94 = .ok (.iload_n 1, 1) := by decide +kernel
theorem dX9_readSlope_95 : decode cX9_readSlope 95 = .ok (.ireturn, 1) := by decide +kernel
set_option maxRecDepth 20000 in
theorem ggX9_readThings_X9_here : GoodIn wsX9_readThings wsX9_here := goodIn_r _ [7, 8, 9, 10, 29, 30, 31, 32, 33, 34, 35, 36, 37, 38, 39, 40, 41, 42, 43, 44, 45, 46, 47, 48] (by decide +kernel) (by decide +kernel)
set_option maxRecDepth 20000 in
theorem gX9_readThings_X9_here : GoodIn wsX9_readThings (wsV RX9 106 RX9 yX9_here wsX9_here) := goodIn_app (goodIn_of _ (by decide +kernel)) ggX9_readThings_X9_here
set_option maxRecDepth 20000 in
theorem ggX9_readThings_X9_must : GoodIn wsX9_readThings wsX9_must := goodIn_r _ [14, 1, 8, 29, 30, 31, 32, 33, 34, 35, 36, 37, 38, 39, 40, 41, 42, 43, 44, 45, 46, 47, 48] (by decide +kernel) (by decide +kernel)
set_option maxRecDepth 20000 in
theorem gX9_readThings_X9_must : GoodIn wsX9_readThings (wsV RX9 109 RX9 yX9_must wsX9_must) := goodIn_app (goodIn_of _ (by decide +kernel)) ggX9_readThings_X9_must
set_option maxRecDepth 20000 in
theorem ggX9_readThings_X9_digit : GoodIn wsX9_readThings wsX9_digit := goodIn_r _ [18, 1, 19, 3, 4, 5, 6, 7, 8, 9, 10, 20, 21, 22, 11, 12, 13, 14, 29, 30, 31, 32, 33, 34, 35, 36, 37, 38, 39, 40, 41, 42, 43, 44, 45, 46, 47, 48] (by decide +kernel) (by decide +kernel)
set_option maxRecDepth 20000 in
theorem gX9_readThings_X9_digit : GoodIn wsX9_readThings (wsV RX9 117 RX9 yX9_digit wsX9_digit) := goodIn_app (goodIn_of _ (by decide +kernel)) ggX9_readThings_X9_digit
set_option maxRecDepth 20000 in
theorem ggX9_readThings_X9_number : GoodIn wsX9_readThings wsX9_number := goodIn_r _ [26, 1, 8, 27, 28, 9, 10, 3, 4, 5, 6, 7, 20, 21, 22, 29, 30, 31, 32, 33, 34, 35, 36, 37, 38, 39, 40, 41, 42, 43, 44, 45, 46, 47, 48] (by decide +kernel) (by decide +kernel)
set_option maxRecDepth 20000 in
theorem gX9_readThings_X9_number : GoodIn wsX9_readThings (wsV RX9 120 RX9 yX9_number wsX9_number) := goodIn_app (goodIn_of _ (by decide +kernel)) ggX9_readThings_X9_number
theorem dX9_readThings_0 : decode cX9_readThings 0 = .ok (.iconst 0, 1) := by decide +kernel
theorem dX9_readThings_1 : decode cX9_readThings 1 = .ok (.istore_n 2, 1) := by decide +kernel
theorem dX9_readThings_2 : decode cX9_readThings 2 = .ok (.aload_n 0, 1) := by decide +kernel
theorem dX9_readThings_3 : decode cX9_readThings 3 = .ok (.getfield 102, 3) := by decide +kernel
theorem dX9_readThings_6 : decode cX9_readThings 6 = .ok (.ifCond .ne 205, 3) := by decide +kernel
theorem dX9_readThings_9 : decode cX9_readThings 9 = .ok (.iload_n 2, 1) := by decide +kernel
theorem dX9_readThings_10 : decode cX9_readThings 10 = .ok (.ifCond .eq 12, 3) := by decide +kernel
theorem dX9_readThings_13 : decode cX9_readThings 13 = .ok (.aload_n 0, 1) := by decide +kernel
theorem dX9_readThings_14 : decode cX9_readThings 14 = .ok (.invokevirtual 106, 3) := by decide +kernel
theorem dX9_readThings_17 : decode cX9_readThings 17 = .ok (.bipush 44, 2) := by decide +kernel
theorem dX9_readThings_19 : decode cX9_readThings 19 = .ok (.if_icmp .ne 192, 3) := by decide +kernel
theorem dX9_readThings_22 : decode cX9_readThings 22 = .ok (.iload_n 2, 1) := by decide +kernel
theorem dX9_readThings_23 : decode cX9_readThings 23 = .ok (.ifCond .le 18, 3) := by decide +kernel
theorem dX9_readThings_26 : decode cX9_readThings 26 = .ok (.aload_n 0, 1) := by decide +kernel
theorem dX9_readThings_27 : decode cX9_readThings 27 = .ok (.iload_n 2, 1) := by decide +kernel
theorem dX9_readThings_28 : decode cX9_readThings 28 = .ok (.bipush 8, 2) := by decide +kernel
theorem dX9_readThings_30 : decode cX9_readThings 30 = .ok (.if_icmp .ge 7, 3) := by decide +kernel
theorem dX9_readThings_33 : decode cX9_readThings 33 = .ok (.iconst 1, 1) := by decide +kernel
theorem dX9_readThings_34 : decode cX9_readThings 34 = .ok (.goto 4, 3) := by decide +kernel
theorem dX9_readThings_37 : decode cX9_readThings 37 = .ok (.iconst 0, 1) := by decide +kernel
theorem dX9_readThings_38 : decode cX9_readThings 38 = .ok (.invokevirtual 109, 3) := by decide +kernel
theorem dX9_readThings_41 : decode cX9_readThings 41 = .ok (.aload_n 0, 1) := by decide +kernel
theorem dX9_readThings_42 : decode cX9_readThings 42 = .ok (.getfield 102, 3) := by decide +kernel
theorem dX9_readThings_45 : decode cX9_readThings 45 = .ok (.ifCond .eq 7, 3) := by decide +kernel
theorem dX9_readThings_48 : decode cX9_readThings 48 = .ok (.iconst 0, 1) := by decide +kernel
theorem dX9_readThings_49 : decode cX9_readThings 49 = .ok (.goto 7, 3) := by decide +kernel
theorem dX9_readThings_52 : decode cX9_readThings 52 = .ok (.aload_n 0, 1) := by decide +kernel
theorem dX9_readThings_53 : decode cX9_readThings 53 = .ok (.invokevirtual 106, 3) := by decide +kernel
theorem dX9_readThings_56 : decode cX9_readThings 56 = .ok (.istore_n 3, 1) := by decide +kernel
theorem dX9_readThings_57 : decode cX9_readThings 57 = .ok (.iload_n 3, 1) := by decide +kernel
theorem dX9_readThings_58 : decode cX9_readThings 58 = .ok (.bipush 112, 2) := by decide +kernel
theorem dX9_readThings_60 : decode cX9_readThings 60 = .ok (.if_icmp .ne 7, 3) := by decide +kernel
theorem dX9_readThings_63 : decode cX9_readThings 63 = .ok (.iconst 0, 1) := by decide +kernel
theorem dX9_readThings_64 : decode cX9_readThings 64 = .ok (.goto 44, 3) := by decide +kernel
theorem dX9_readThings_67 : decode cX9_readThings 67 = .ok (.iload_n 3, 1) := by decide +kernel
theorem dX9_readThings_68 : decode cX9_readThings 68 = .ok (.bipush 108, 2) := by decide +kernel
theorem dX9_readThings_70 : decode cX9_readThings 70 = .ok (.if_icmp .ne 7, 3) := by decide +kernel
theorem dX9_readThings_73 : decode cX9_readThings 73 = .ok (.iconst 1, 1) := by decide +kernel
theorem dX9_readThings_74 : decode cX9_readThings 74 = .ok (.goto 34, 3) := by decide +kernel
theorem dX9_readThings_77 : decode cX9_readThings 77 = .ok (.iload_n 3, 1) := by decide +kernel
theorem dX9_readThings_78 : decode cX9_readThings 78 = .ok (.bipush 115, 2) := by decide +kernel
theorem dX9_readThings_80 : decode cX9_readThings 80 = .ok (.if_icmp .ne 7, 3) := by decide +kernel
theorem dX9_readThings_83 : decode cX9_readThings 83 = .ok (.iconst 2, 1) := by decide +kernel
theorem dX9_readThings_84 : decode cX9_readThings 84 = .ok (.goto 24, 3) := by decide +kernel
theorem dX9_readThings_87 : decode cX9_readThings 87 = .ok (.iload_n 3, 1) := by decide +kernel
theorem dX9_readThings_88 : decode cX9_readThings 88 = .ok (.bipush 119, 2) := by decide +kernel
theorem dX9_readThings_90 : decode cX9_readThings 90 = .ok (.if_icmp .ne 7, 3) := by decide +kernel
theorem dX9_readThings_93 : decode cX9_readThings 93 = .ok (.iconst 3, 1) := by decide +kernel
theorem dX9_readThings_94 : decode cX9_readThings 94 = .ok (.goto 14, 3) := by decide +kernel
theorem dX9_readThings_97 : decode cX9_readThings 97 = .ok (.iload_n 3, 1) := by decide +kernel
theorem dX9_readThings_98 : decode cX9_readThings 98 = .ok (.bipush 103, 2) := by decide +kernel
theorem dX9_readThings_100 : decode cX9_readThings 100 = .ok (.if_icmp .ne 7, 3) := by decide +kernel
theorem dX9_readThings_103 : decode cX9_readThings 103 = .ok (.iconst 4, 1) := by decide +kernel
theorem dX9_readThings_104 : decode cX9_readThings 104 = .ok (.goto 4, 3) := by decide +kernel
theorem dX9_readThings_107 : decode cX9_readThings 107 = .ok (.iconst (-1), 1) := by decide +kernel
theorem dX9_readThings_108 : decode cX9_readThings 108 = .ok (.istore 4, 2) := by decide +kernel
theorem dX9_readThings_110 : decode cX9_readThings 110 = .ok (.aload_n 0, 1) := by decide +kernel
theorem dX9_readThings_111 : decode cX9_readThings 111 = .ok (.iload 4, 2) := by decide +kernel
theorem dX9_readThings_113 : decode cX9_readThings 113 = .ok (.ifCond .lt 7, 3) := by decide +kernel
theorem dX9_readThings_116 : decode cX9_readThings 116 = .ok (.iconst 1, 1) := by decide +kernel
theorem dX9_readThings_117 : decode cX9_readThings 117 = .ok (.goto 4, 3) := by decide +kernel
theorem dX9_readThings_120 : decode cX9_readThings 120 = .ok (.iconst 0, 1) := by decide +kernel
theorem dX9_readThings_121 : decode cX9_readThings 121 = .ok (.invokevirtual 109, 3) := by decide +kernel
theorem dX9_readThings_124 : decode cX9_readThings 124 = .ok (.aload_n 0, 1) := by decide +kernel
theorem dX9_readThings_125 : decode cX9_readThings 125 = .ok (.invokevirtual 117, 3) := by decide +kernel
theorem dX9_readThings_128 : decode cX9_readThings 128 = .ok (.istore 5, 2) := by decide +kernel
theorem dX9_readThings_130 : decode cX9_readThings 130 = .ok (.aload_n 0, 1) := by decide +kernel
theorem dX9_readThings_131 : decode cX9_readThings 131 = .ok (.aload_n 0, 1) := by decide +kernel
theorem dX9_readThings_132 : decode cX9_readThings 132 = .ok (.getfield 102, 3) := by decide +kernel
theorem dX9_readThings_135 : decode cX9_readThings 135 = .ok (.ifCond .ne 16, 3) := by decide +kernel
theorem dX9_readThings_138 : decode cX9_readThings 138 = .ok (.aload_n 0, 1) := by decide +kernel
theorem dX9_readThings_139 : decode cX9_readThings 139 = .ok (.invokevirtual 106, 3) := by decide +kernel
theorem dX9_readThings_142 : decode cX9_readThings 142 = .ok (.bipush 64, 2) := by decide +kernel
theorem dX9_readThings_144 : decode cX9_readThings 144 = .ok (.if_icmp .ne 7, 3) := by decide +kernel
theorem dX9_readThings_147 : decode cX9_readThings 147 = .ok (.iconst 1, 1) := by decide +kernel
theorem dX9_readThings_148 : decode cX9_readThings 148 = .ok (.goto 4, 3) := by decide +kernel
theorem dX9_readThings_151 : decode cX9_readThings 151 = .ok (.iconst 0, 1) := by decide +kernel
theorem dX9_readThings_152 : decode cX9_readThings 152 = .ok (.invokevirtual 109, 3) := by decide +kernel
theorem dX9_readThings_155 : decode cX9_readThings 155 = .ok (.aload_n 0, 1) := by decide +kernel
theorem dX9_readThings_156 : decode cX9_readThings 156 = .ok (.iload_n 1, 1) := by decide +kernel
theorem dX9_readThings_157 : decode cX9_readThings 157 = .ok (.iconst 1, 1) := by decide +kernel
theorem dX9_readThings_158 : decode cX9_readThings 158 = .ok (.isub, 1) := by decide +kernel
theorem dX9_readThings_159 : decode cX9_readThings 159 = .ok (.invokevirtual 120, 3) := by decide +kernel
theorem dX9_readThings_162 : decode cX9_readThings 162 = .ok (.istore 6, 2) := by decide +kernel
theorem dX9_readThings_164 : decode cX9_readThings 164 = .ok (.aload_n 0, 1) := by decide +kernel
theorem dX9_readThings_165 : decode cX9_readThings 165 = .ok (.getfield 102, 3) := by decide +kernel
theorem dX9_readThings_168 : decode cX9_readThings 168 = .ok (.ifCond .ne 37, 3) := by decide +kernel
theorem dX9_readThings_171 : decode cX9_readThings 171 = .ok (.aload_n 0, 1) := by decide +kernel
theorem dX9_readThings_172 : decode cX9_readThings 172 = .ok (.getfield 19, 3) := by decide +kernel
theorem dX9_readThings_175 : decode cX9_readThings 175 = .ok (.iconst 3, 1) := by decide +kernel
theorem dX9_readThings_176 : decode cX9_readThings 176 = .ok (.iload_n 2, 1) := by decide +kernel
theorem dX9_readThings_177 : decode cX9_readThings 177 = .ok (.imul, 1) := by decide +kernel
theorem dX9_readThings_178 : decode cX9_readThings 178 = .ok (.iload 4, 2) := by decide +kernel
theorem dX9_readThings_180 : decode cX9_readThings 180 = .ok (.iastore, 1) := by decide +kernel
theorem dX9_readThings_181 : decode cX9_readThings 181 = .ok (.aload_n 0, 1) := by decide +kernel
theorem dX9_readThings_182 : decode cX9_readThings 182 = .ok (.getfield 19, 3) := by decide +kernel
theorem dX9_readThings_185 : decode cX9_readThings 185 = .ok (.iconst 3, 1) := by decide +kernel
theorem dX9_readThings_186 : decode cX9_readThings 186 = .ok (.iload_n 2, 1) := by decide +kernel
theorem dX9_readThings_187 : decode cX9_readThings 187 = .ok (.imul, 1) := by decide +kernel
theorem dX9_readThings_188 : decode cX9_readThings 188 = .ok (.iconst 1, 1) := by decide +kernel
theorem dX9_readThings_189 : decode cX9_readThings 189 = .ok (.iadd, 1) := by decide +kernel
theorem dX9_readThings_190 : decode cX9_readThings 190 = .ok (.iload 5, 2) := by decide +kernel
theorem dX9_readThings_192 : decode cX9_readThings 192 = .ok (.iastore, 1) := by decide +kernel
theorem dX9_readThings_193 : decode cX9_readThings 193 = .ok (.aload_n 0, 1) := by decide +kernel
theorem dX9_readThings_194 : decode cX9_readThings 194 = .ok (.getfield 19, 3) := by decide +kernel
theorem dX9_readThings_197 : decode cX9_readThings 197 = .ok (.iconst 3, 1) := by decide +kernel
theorem dX9_readThings_198 : decode cX9_readThings 198 = .ok (.iload_n 2, 1) := by decide +kernel
theorem dX9_readThings_199 : decode cX9_readThings 199 = .ok (.imul, 1) := by decide +kernel
theorem dX9_readThings_200 : decode cX9_readThings 200 = .ok (.iconst 2, 1) := by decide +kernel
theorem dX9_readThings_201 : decode cX9_readThings 201 = .ok (.iadd, 1) := by decide +kernel
theorem dX9_readThings_202 : decode cX9_readThings 202 = .ok (.iload 6, 2) := by decide +kernel
theorem dX9_readThings_204 : decode cX9_readThings 204 = .ok (.iastore, 1) := by decide +kernel
theorem dX9_readThings_205 : decode cX9_readThings 205 = .ok (.iinc 2 1, 3) := by decide +kernel
theorem dX9_readThings_208 : decode cX9_readThings 208 = .ok (.goto (-206), 3) := by decide +kernel
theorem dX9_readThings_211 : decode cX9_readThings 211 = .ok (.iload_n 2, 1) := by decide +kernel
theorem dX9_readThings_212 : decode cX9_readThings 212 = .ok (.ireturn, 1) := by decide +kernel
set_option maxRecDepth 20000 in
theorem ggX9_village_X9_readSlope : GoodIn wsX9_village wsX9_readSlope := goodIn_r _ [12, 2, 5, 13, 14, 15, 11, 16, 1, 3, 17, 18, 19, 20, 21, 22, 23, 24, 25, 26, 27, 28, 29, 48, 49, 50, 51, 52, 53, 54, 55, 56, 57, 58, 59, 60, 61, 62, 63, 64, 65, 66, 67] (by decide +kernel) (by decide +kernel)
set_option maxRecDepth 20000 in
theorem gX9_village_X9_readSlope : GoodIn wsX9_village (wsV RX9 123 RX9 yX9_readSlope wsX9_readSlope) := goodIn_app (goodIn_of _ (by decide +kernel)) ggX9_village_X9_readSlope
set_option maxRecDepth 20000 in
theorem ggX9_village_X9_here : GoodIn wsX9_village wsX9_here := goodIn_r _ [16, 1, 3, 17, 48, 49, 50, 51, 52, 53, 54, 55, 56, 57, 58, 59, 60, 61, 62, 63, 64, 65, 66, 67] (by decide +kernel) (by decide +kernel)
set_option maxRecDepth 20000 in
theorem gX9_village_X9_here : GoodIn wsX9_village (wsV RX9 106 RX9 yX9_here wsX9_here) := goodIn_app (goodIn_of _ (by decide +kernel)) ggX9_village_X9_here
set_option maxRecDepth 20000 in
theorem ggX9_village_X9_readThings : GoodIn wsX9_village wsX9_readThings := goodIn_r _ [33, 2, 6, 13, 14, 15, 11, 16, 1, 3, 17, 18, 19, 20, 21, 22, 23, 24, 25, 26, 27, 28, 29, 34, 35, 36, 37, 38, 39, 48, 49, 50, 51, 52, 53, 54, 55, 56, 57, 58, 59, 60, 61, 62, 63, 64, 65, 66, 67] (by decide +kernel) (by decide +kernel)
set_option maxRecDepth 20000 in
theorem gX9_village_X9_readThings : GoodIn wsX9_village (wsV RX9 126 RX9 yX9_readThings wsX9_readThings) := goodIn_app (goodIn_of _ (by decide +kernel)) ggX9_village_X9_readThings
set_option maxRecDepth 20000 in
theorem ggX9_village_X9_comes : GoodIn wsX9_village wsX9_comes := goodIn_r _ [43, 4, 7, 48, 49, 50, 51, 52, 53, 54, 55, 56, 57, 58, 59, 60, 61, 62, 63, 64, 65, 66, 67] (by decide +kernel) (by decide +kernel)
set_option maxRecDepth 20000 in
theorem gX9_village_X9_comes : GoodIn wsX9_village (wsV RX9 75 RX9 yX9_comes wsX9_comes) := goodIn_app (goodIn_of _ (by decide +kernel)) ggX9_village_X9_comes
set_option maxRecDepth 20000 in
theorem ggX9_village_X9_first : GoodIn wsX9_village wsX9_first := goodIn_r _ [47, 4, 48, 49, 50, 51, 52, 53, 54, 55, 56, 57, 58, 59, 60, 61, 62, 63, 64, 65, 66, 67] (by decide +kernel) (by decide +kernel)
set_option maxRecDepth 20000 in
theorem gX9_village_X9_first : GoodIn wsX9_village (wsV RX9 48 RX9 yX9_first wsX9_first) := goodIn_app (goodIn_of _ (by decide +kernel)) ggX9_village_X9_first
theorem dX9_village_0 : decode cX9_village 0 = .ok (.aload_n 0, 1) := by decide +kernel
theorem dX9_village_1 : decode cX9_village 1 = .ok (.iconst 0, 1) := by decide +kernel
theorem dX9_village_2 : decode cX9_village 2 = .ok (.putfield 99, 3) := by decide +kernel
theorem dX9_village_5 : decode cX9_village 5 = .ok (.aload_n 0, 1) := by decide +kernel
theorem dX9_village_6 : decode cX9_village 6 = .ok (.iconst 0, 1) := by decide +kernel
theorem dX9_village_7 : decode cX9_village 7 = .ok (.putfield 102, 3) := by decide +kernel
theorem dX9_village_10 : decode cX9_village 10 = .ok (.aload_n 0, 1) := by decide +kernel
theorem dX9_village_11 : decode cX9_village 11 = .ok (.invokevirtual 123, 3) := by decide +kernel
theorem dX9_village_14 : decode cX9_village 14 = .ok (.istore_n 1, 1) := by decide +kernel
theorem dX9_village_15 : decode cX9_village 15 = .ok (.iconst 0, 1) := by decide +kernel
theorem dX9_village_16 : decode cX9_village 16 = .ok (.istore_n 2, 1) := by decide +kernel
theorem dX9_village_17 : decode cX9_village 17 = .ok (.aload_n 0, 1) := by decide +kernel
theorem dX9_village_18 : decode cX9_village 18 = .ok (.getfield 102, 3) := by decide +kernel
theorem dX9_village_21 : decode cX9_village 21 = .ok (.ifCond .ne 28, 3) := by decide +kernel
theorem dX9_village_24 : decode cX9_village 24 = .ok (.aload_n 0, 1) := by decide +kernel
theorem dX9_village_25 : decode cX9_village 25 = .ok (.invokevirtual 106, 3) := by decide +kernel
theorem dX9_village_28 : decode cX9_village 28 = .ok (.bipush 59, 2) := by decide +kernel
theorem dX9_village_30 : decode cX9_village 30 = .ok (.if_icmp .ne 19, 3) := by decide +kernel
theorem dX9_village_33 : decode cX9_village 33 = .ok (.aload_n 0, 1) := by decide +kernel
theorem dX9_village_34 : decode cX9_village 34 = .ok (.dup, 1) := by decide +kernel
theorem dX9_village_35 : decode cX9_village 35 = .ok (.getfield 99, 3) := by decide +kernel
theorem dX9_village_38 : decode cX9_village 38 = .ok (.iconst 1, 1) := by decide +kernel
theorem dX9_village_39 : decode cX9_village 39 = .ok (.iadd, 1) := by decide +kernel
theorem dX9_village_40 : decode cX9_village 40 = .ok (.putfield 99, 3) := by decide +kernel
theorem dX9_village_43 : decode cX9_village 43 = .ok (.aload_n 0, 1) := by decide +kernel
theorem dX9_village_44 : decode cX9_village 44 = .ok (.iload_n 1, 1) := by decide +kernel
theorem dX9_village_45 : decode cX9_village 45 = .ok (.invokevirtual 126, 3) := by decide +kernel
theorem dX9_village_48 : decode cX9_village 48 = .ok (.istore_n 2, 1) := by decide +kernel
theorem dX9_village_49 : decode cX9_village 49 = .ok (.aload_n 0, 1) := by decide +kernel
theorem dX9_village_50 : decode cX9_village 50 = .ok (.aload_n 0, 1) := by decide +kernel
theorem dX9_village_51 : decode cX9_village 51 = .ok (.getfield 102, 3) := by decide +kernel
theorem dX9_village_54 : decode cX9_village 54 = .ok (.ifCond .ne 10, 3) := by decide +kernel
theorem dX9_village_57 : decode cX9_village 57 = .ok (.aload_n 0, 1) := by decide +kernel
theorem dX9_village_58 : decode cX9_village 58 = .ok (.invokevirtual 106, 3) := by decide +kernel
theorem dX9_village_61 : decode cX9_village 61 = .ok (.ifCond .eq 7, 3) := by decide +kernel
theorem dX9_village_64 : decode cX9_village 64 = .ok (.iconst 1, 1) := by decide +kernel
theorem dX9_village_65 : decode cX9_village 65 = .ok (.goto 4, 3) := by decide +kernel
theorem dX9_village_68 : decode cX9_village 68 = .ok (.iconst 0, 1) := by decide +kernel
theorem dX9_village_69 : decode cX9_village 69 = .ok (.putfield 102, 3) := by decide +kernel
theorem dX9_village_72 : decode cX9_village 72 = .ok (.aload_n 0, 1) := by decide +kernel
theorem dX9_village_73 : decode cX9_village 73 = .ok (.iconst 0, 1) := by decide +kernel
theorem dX9_village_74 : decode cX9_village 74 = .ok (.putfield 96, 3) := by decide +kernel
theorem dX9_village_77 : decode cX9_village 77 = .ok (.aload_n 0, 1) := by decide +kernel
theorem dX9_village_78 : decode cX9_village 78 = .ok (.getfield 102, 3) := by decide +kernel
theorem dX9_village_81 : decode cX9_village 81 = .ok (.ifCond .eq 11, 3) := by decide +kernel
theorem dX9_village_84 : decode cX9_village 84 = .ok (.bipush (-20), 2) := by decide +kernel
theorem dX9_village_86 : decode cX9_village 86 = .ok (.aload_n 0, 1) := by decide +kernel
theorem dX9_village_87 : decode cX9_village 87 = .ok (.getfield 99, 3) := by decide +kernel
theorem dX9_village_90 : decode cX9_village 90 = .ok (.isub, 1) := by decide +kernel
theorem dX9_village_91 : decode cX9_village 91 = .ok (.ireturn, 1) := by decide +kernel
theorem dX9_village_92 : decode cX9_village 92 = .ok (.aload_n 0, 1) := by decide +kernel
theorem dX9_village_93 : decode cX9_village 93 = .ok (.getfield 7, 3) := by decide +kernel
theorem dX9_village_96 : decode cX9_village 96 = .ok (.iconst 0, 1) := by decide +kernel
theorem dX9_village_97 : decode cX9_village 97 = .ok (.iload_n 1, 1) := by decide +kernel
theorem dX9_village_98 : decode cX9_village 98 = .ok (.iastore, 1) := by decide +kernel
theorem dX9_village_99 : decode cX9_village 99 = .ok (.iconst 0, 1) := by decide +kernel
theorem dX9_village_100 : decode cX9_village 100 = .ok (.istore_n 3, 1) := by decide +kernel
theorem dX9_village_101 : decode cX9_village 101 = .ok (.iload_n 3, 1) := by decide +kernel
theorem dX9_village_102 : decode cX9_village 102 = .ok (.iload_n 1, 1) := by decide +kernel
theorem dX9_village_103 : decode cX9_village 103 = .ok (.if_icmp .ge 45, 3) := by decide +kernel
theorem dX9_village_106 : decode cX9_village 106 = .ok (.aload_n 0, 1) := by decide +kernel
theorem dX9_village_107 : decode cX9_village 107 = .ok (.getfield 7, 3) := by decide +kernel
theorem dX9_village_110 : decode cX9_village 110 = .ok (.bipush 8, 2) := by decide +kernel
theorem dX9_village_112 : decode cX9_village 112 = .ok (.iload_n 3, 1) := by decide +kernel
theorem dX9_village_113 : decode cX9_village 113 = .ok (.iadd, 1) := by decide +kernel
theorem dX9_village_114 : decode cX9_village 114 = .ok (.aload_n 0, 1) := by decide +kernel
theorem dX9_village_115 : decode cX9_village 115 = .ok (.getfield 16, 3) := by decide +kernel
theorem dX9_village_118 : decode cX9_village 118 = .ok (.iconst 2, 1) := by decide +kernel
theorem dX9_village_119 : decode cX9_village 119 = .ok (.iload_n 3, 1) := by decide +kernel
theorem dX9_village_120 : decode cX9_village 120 = .ok (.imul, 1) := by decide +kernel
theorem dX9_village_121 : decode cX9_village 121 = .ok (.iaload, 1) := by decide +kernel
theorem dX9_village_122 : decode cX9_village 122 = .ok (.iastore, 1) := by decide +kernel
theorem dX9_village_123 : decode cX9_village 123 = .ok (.aload_n 0, 1) := by decide +kernel
theorem dX9_village_124 : decode cX9_village 124 = .ok (.getfield 7, 3) := by decide +kernel
theorem dX9_village_127 : decode cX9_village 127 = .ok (.bipush 32, 2) := by decide +kernel
theorem dX9_village_129 : decode cX9_village 129 = .ok (.iload_n 3, 1) := by decide +kernel
theorem dX9_village_130 : decode cX9_village 130 = .ok (.iadd, 1) := by decide +kernel
theorem dX9_village_131 : decode cX9_village 131 = .ok (.aload_n 0, 1) := by decide +kernel
theorem dX9_village_132 : decode cX9_village 132 = .ok (.getfield 16, 3) := by decide +kernel
theorem dX9_village_135 : decode cX9_village 135 = .ok (.iconst 2, 1) := by decide +kernel
theorem dX9_village_136 : decode cX9_village 136 = .ok (.iload_n 3, 1) := by decide +kernel
theorem dX9_village_137 : decode cX9_village 137 = .ok (.imul, 1) := by decide +kernel
theorem dX9_village_138 : decode cX9_village 138 = .ok (.iconst 1, 1) := by decide +kernel
theorem dX9_village_139 : decode cX9_village 139 = .ok (.iadd, 1) := by decide +kernel
theorem dX9_village_140 : decode cX9_village 140 = .ok (.iaload, 1) := by decide +kernel
theorem dX9_village_141 : decode cX9_village 141 = .ok (.iastore, 1) := by decide +kernel
theorem dX9_village_142 : decode cX9_village 142 = .ok (.iinc 3 1, 3) := by decide +kernel
theorem dX9_village_145 : decode cX9_village 145 = .ok (.goto (-44), 3) := by decide +kernel
theorem dX9_village_148 : decode cX9_village 148 = .ok (.aload_n 0, 1) := by decide +kernel
theorem dX9_village_149 : decode cX9_village 149 = .ok (.getfield 7, 3) := by decide +kernel
theorem dX9_village_152 : decode cX9_village 152 = .ok (.iconst 1, 1) := by decide +kernel
theorem dX9_village_153 : decode cX9_village 153 = .ok (.iconst 0, 1) := by decide +kernel
theorem dX9_village_154 : decode cX9_village 154 = .ok (.iastore, 1) := by decide +kernel
theorem dX9_village_155 : decode cX9_village 155 = .ok (.iconst 0, 1) := by decide +kernel
theorem dX9_village_156 : decode cX9_village 156 = .ok (.istore_n 3, 1) := by decide +kernel
theorem dX9_village_157 : decode cX9_village 157 = .ok (.iload_n 3, 1) := by decide +kernel
theorem dX9_village_158 : decode cX9_village 158 = .ok (.iload_n 2, 1) := by decide +kernel
theorem dX9_village_159 : decode cX9_village 159 = .ok (.if_icmp .ge 41, 3) := by decide +kernel
theorem dX9_village_162 : decode cX9_village 162 = .ok (.aload_n 0, 1) := by decide +kernel
theorem dX9_village_163 : decode cX9_village 163 = .ok (.aload_n 0, 1) := by decide +kernel
theorem dX9_village_164 : decode cX9_village 164 = .ok (.getfield 19, 3) := by decide +kernel
theorem dX9_village_167 : decode cX9_village 167 = .ok (.iconst 3, 1) := by decide +kernel
theorem dX9_village_168 : decode cX9_village 168 = .ok (.iload_n 3, 1) := by decide +kernel
theorem dX9_village_169 : decode cX9_village 169 = .ok (.imul, 1) := by decide +kernel
theorem dX9_village_170 : decode cX9_village 170 = .ok (.iaload, 1) := by decide +kernel
theorem dX9_village_171 : decode cX9_village 171 = .ok (.aload_n 0, 1) := by decide +kernel
theorem dX9_village_172 : decode cX9_village 172 = .ok (.getfield 19, 3) := by decide +kernel
theorem dX9_village_175 : decode cX9_village 175 = .ok (.iconst 3, 1) := by decide +kernel
theorem dX9_village_176 : decode cX9_village 176 = .ok (.iload_n 3, 1) := by decide +kernel
theorem dX9_village_177 : decode cX9_village 177 = .ok (.imul, 1) := by decide +kernel
theorem dX9_village_178 : decode cX9_village 178 = .ok (.iconst 1, 1) := by decide +kernel
theorem dX9_village_179 : decode cX9_village 179 = .ok (.iadd, 1) := by decide +kernel
theorem dX9_village_180 : decode cX9_village 180 = .ok (.iaload, 1) := by decide +kernel
theorem dX9_village_181 : decode cX9_village 181 = .ok (.aload_n 0, 1) := by decide +kernel
theorem dX9_village_182 : decode cX9_village 182 = .ok (.getfield 19, 3) := by decide +kernel
theorem dX9_village_185 : decode cX9_village 185 = .ok (.iconst 3, 1) := by decide +kernel
theorem dX9_village_186 : decode cX9_village 186 = .ok (.iload_n 3, 1) := by decide +kernel
theorem dX9_village_187 : decode cX9_village 187 = .ok (.imul, 1) := by decide +kernel
theorem dX9_village_188 : decode cX9_village 188 = .ok (.iconst 2, 1) := by decide +kernel
theorem dX9_village_189 : decode cX9_village 189 = .ok (.iadd, 1) := by decide +kernel
theorem dX9_village_190 : decode cX9_village 190 = .ok (.iaload, 1) := by decide +kernel
theorem dX9_village_191 : decode cX9_village 191 = .ok (.invokevirtual 75, 3) := by decide +kernel
theorem dX9_village_194 : decode cX9_village 194 = .ok (.iinc 3 1, 3) := by decide +kernel
theorem dX9_village_197 : decode cX9_village 197 = .ok (.goto (-40), 3) := by decide +kernel
theorem dX9_village_200 : decode cX9_village 200 = .ok (.aload_n 0, 1) := by decide +kernel
theorem dX9_village_201 : decode cX9_village 201 = .ok (.invokevirtual 48, 3) := by decide +kernel
theorem dX9_village_204 : decode cX9_village 204 = .ok (.aload_n 0, 1) := by decide +kernel
theorem dX9_village_205 : decode cX9_village 205 = .ok (.iconst 0, 1) := by decide +kernel
theorem dX9_village_206 : decode cX9_village 206 = .ok (.putfield 70, 3) := by decide +kernel
theorem dX9_village_209 : decode cX9_village 209 = .ok (.iload_n 1, 1) := by decide +kernel
theorem dX9_village_210 : decode cX9_village 210 = .ok (.ireturn, 1) := by decide +kernel
theorem dX9_grows_0 : decode cX9_grows 0 = .ok (.aload_n 0, 1) := by decide +kernel
theorem dX9_grows_1 : decode cX9_grows 1 = .ok (.getfield 7, 3) := by decide +kernel
theorem dX9_grows_4 : decode cX9_grows 4 = .ok (.iconst 3, 1) := by decide +kernel
theorem dX9_grows_5 : decode cX9_grows 5 = .ok (.iaload, 1) := by decide +kernel
theorem dX9_grows_6 : decode cX9_grows 6 = .ok (.iload_n 1, 1) := by decide +kernel
theorem dX9_grows_7 : decode cX9_grows 7 = .ok (.iadd, 1) := by decide +kernel
theorem dX9_grows_8 : decode cX9_grows 8 = .ok (.istore_n 2, 1) := by decide +kernel
theorem dX9_grows_9 : decode cX9_grows 9 = .ok (.aload_n 0, 1) := by decide +kernel
theorem dX9_grows_10 : decode cX9_grows 10 = .ok (.getfield 7, 3) := by decide +kernel
theorem dX9_grows_13 : decode cX9_grows 13 = .ok (.iconst 3, 1) := by decide +kernel
theorem dX9_grows_14 : decode cX9_grows 14 = .ok (.iload_n 2, 1) := by decide +kernel
theorem dX9_grows_15 : decode cX9_grows 15 = .ok (.sipush 999, 3) := by decide +kernel
theorem dX9_grows_18 : decode cX9_grows 18 = .ok (.if_icmp .le 9, 3) := by decide +kernel
theorem dX9_grows_21 : decode cX9_grows 21 = .ok (.sipush 999, 3) := by decide +kernel
theorem dX9_grows_24 : decode cX9_grows 24 = .ok (.goto 13, 3) := by decide +kernel
theorem dX9_grows_27 : decode cX9_grows 27 = .ok (.iload_n 2, 1) := by decide +kernel
theorem dX9_grows_28 : decode cX9_grows 28 = .ok (.iconst 1, 1) := by decide +kernel
theorem dX9_grows_29 : decode cX9_grows 29 = .ok (.if_icmp .ge 7, 3) := by decide +kernel
theorem dX9_grows_32 : decode cX9_grows 32 = .ok (.iconst 1, 1) := by decide +kernel
theorem dX9_grows_33 : decode cX9_grows 33 = .ok (.goto 4, 3) := by decide +kernel
theorem dX9_grows_36 : decode cX9_grows 36 = .ok (.iload_n 2, 1) := by decide +kernel
theorem dX9_grows_37 : decode cX9_grows 37 = .ok (.iastore, 1) := by decide +kernel
theorem dX9_grows_38 : decode cX9_grows 38 = .ok (.return_, 1) := by decide +kernel
theorem dX9_slows_0 : decode cX9_slows 0 = .ok (.aload_n 0, 1) := by decide +kernel
theorem dX9_slows_1 : decode cX9_slows 1 = .ok (.getfield 7, 3) := by decide +kernel
theorem dX9_slows_4 : decode cX9_slows 4 = .ok (.iconst 4, 1) := by decide +kernel
theorem dX9_slows_5 : decode cX9_slows 5 = .ok (.aload_n 0, 1) := by decide +kernel
theorem dX9_slows_6 : decode cX9_slows 6 = .ok (.getfield 7, 3) := by decide +kernel
theorem dX9_slows_9 : decode cX9_slows 9 = .ok (.iconst 4, 1) := by decide +kernel
theorem dX9_slows_10 : decode cX9_slows 10 = .ok (.iaload, 1) := by decide +kernel
theorem dX9_slows_11 : decode cX9_slows 11 = .ok (.iload_n 1, 1) := by decide +kernel
theorem dX9_slows_12 : decode cX9_slows 12 = .ok (.if_icmp .ge 7, 3) := by decide +kernel
theorem dX9_slows_15 : decode cX9_slows 15 = .ok (.iconst 0, 1) := by decide +kernel
theorem dX9_slows_16 : decode cX9_slows 16 = .ok (.goto 11, 3) := by decide +kernel
theorem dX9_slows_19 : decode cX9_slows 19 = .ok (.aload_n 0, 1) := by decide +kernel
theorem dX9_slows_20 : decode cX9_slows 20 = .ok (.getfield 7, 3) := by decide +kernel
theorem dX9_slows_23 : decode cX9_slows 23 = .ok (.iconst 4, 1) := by decide +kernel
theorem dX9_slows_24 : decode cX9_slows 24 = .ok (.iaload, 1) := by decide +kernel
theorem dX9_slows_25 : decode cX9_slows 25 = .ok (.iload_n 1, 1) := by decide +kernel
theorem dX9_slows_26 : decode cX9_slows 26 = .ok (.isub, 1) := by decide +kernel
theorem dX9_slows_27 : decode cX9_slows 27 = .ok (.iastore, 1) := by decide +kernel
theorem dX9_slows_28 : decode cX9_slows 28 = .ok (.return_, 1) := by decide +kernel
theorem dX9_takesUp_0 : decode cX9_takesUp 0 = .ok (.aload_n 0, 1) := by decide +kernel
theorem dX9_takesUp_1 : decode cX9_takesUp 1 = .ok (.getfield 7, 3) := by decide +kernel
theorem dX9_takesUp_4 : decode cX9_takesUp 4 = .ok (.bipush 56, 2) := by decide +kernel
theorem dX9_takesUp_6 : decode cX9_takesUp 6 = .ok (.iconst 3, 1) := by decide +kernel
theorem dX9_takesUp_7 : decode cX9_takesUp 7 = .ok (.iload_n 1, 1) := by decide +kernel
theorem dX9_takesUp_8 : decode cX9_takesUp 8 = .ok (.imul, 1) := by decide +kernel
theorem dX9_takesUp_9 : decode cX9_takesUp 9 = .ok (.iadd, 1) := by decide +kernel
theorem dX9_takesUp_10 : decode cX9_takesUp 10 = .ok (.iconst 2, 1) := by decide +kernel
theorem dX9_takesUp_11 : decode cX9_takesUp 11 = .ok (.iadd, 1) := by decide +kernel
theorem dX9_takesUp_12 : decode cX9_takesUp 12 = .ok (.iconst (-1), 1) := by decide +kernel
theorem dX9_takesUp_13 : decode cX9_takesUp 13 = .ok (.iastore, 1) := by decide +kernel
theorem dX9_takesUp_14 : decode cX9_takesUp 14 = .ok (.aload_n 0, 1) := by decide +kernel
theorem dX9_takesUp_15 : decode cX9_takesUp 15 = .ok (.getfield 7, 3) := by decide +kernel
theorem dX9_takesUp_18 : decode cX9_takesUp 18 = .ok (.bipush 80, 2) := by decide +kernel
theorem dX9_takesUp_20 : decode cX9_takesUp 20 = .ok (.aload_n 0, 1) := by decide +kernel
theorem dX9_takesUp_21 : decode cX9_takesUp 21 = .ok (.getfield 7, 3) := by decide +kernel
theorem dX9_takesUp_24 : decode cX9_takesUp 24 = .ok (.bipush 6, 2) := by decide +kernel
theorem dX9_takesUp_26 : decode cX9_takesUp 26 = .ok (.iaload, 1) := by decide +kernel
theorem dX9_takesUp_27 : decode cX9_takesUp 27 = .ok (.iadd, 1) := by decide +kernel
theorem dX9_takesUp_28 : decode cX9_takesUp 28 = .ok (.iload_n 1, 1) := by decide +kernel
theorem dX9_takesUp_29 : decode cX9_takesUp 29 = .ok (.iastore, 1) := by decide +kernel
theorem dX9_takesUp_30 : decode cX9_takesUp 30 = .ok (.aload_n 0, 1) := by decide +kernel
theorem dX9_takesUp_31 : decode cX9_takesUp 31 = .ok (.getfield 7, 3) := by decide +kernel
theorem dX9_takesUp_34 : decode cX9_takesUp 34 = .ok (.bipush 6, 2) := by decide +kernel
theorem dX9_takesUp_36 : decode cX9_takesUp 36 = .ok (.dup2, 1) := by decide +kernel
theorem dX9_takesUp_37 : decode cX9_takesUp 37 = .ok (.iaload, 1) := by decide +kernel
theorem dX9_takesUp_38 : decode cX9_takesUp 38 = .ok (.iconst 1, 1) := by decide +kernel
theorem dX9_takesUp_39 : decode cX9_takesUp 39 = .ok (.iadd, 1) := by decide +kernel
theorem dX9_takesUp_40 : decode cX9_takesUp 40 = .ok (.iastore, 1) := by decide +kernel
theorem dX9_takesUp_41 : decode cX9_takesUp 41 = .ok (.return_, 1) := by decide +kernel
set_option maxRecDepth 20000 in
theorem ggX9_meets_X9_kind : GoodIn wsX9_meets wsX9_kind := goodIn_r _ [6, 1, 23, 24, 25, 26, 27, 28, 29, 30, 31, 32, 33, 34, 35, 36, 37, 38, 39, 40, 41, 42] (by decide +kernel) (by decide +kernel)
set_option maxRecDepth 20000 in
theorem gX9_meets_X9_kind : GoodIn wsX9_meets (wsV RX9 82 RX9 yX9_kind wsX9_kind) := goodIn_app (goodIn_of _ (by decide +kernel)) ggX9_meets_X9_kind
set_option maxRecDepth 20000 in
theorem ggX9_meets_X9_heavy : GoodIn wsX9_meets wsX9_heavy := goodIn_r _ [10, 1, 23, 24, 25, 26, 27, 28, 29, 30, 31, 32, 33, 34, 35, 36, 37, 38, 39, 40, 41, 42] (by decide +kernel) (by decide +kernel)
set_option maxRecDepth 20000 in
theorem gX9_meets_X9_heavy : GoodIn wsX9_meets (wsV RX9 85 RX9 yX9_heavy wsX9_heavy) := goodIn_app (goodIn_of _ (by decide +kernel)) ggX9_meets_X9_heavy
set_option maxRecDepth 20000 in
theorem ggX9_meets_X9_takesUp : GoodIn wsX9_meets wsX9_takesUp := goodIn_r _ [14, 1, 23, 24, 25, 26, 27, 28, 29, 30, 31, 32, 33, 34, 35, 36, 37, 38, 39, 40, 41, 42] (by decide +kernel) (by decide +kernel)
set_option maxRecDepth 20000 in
theorem gX9_meets_X9_takesUp : GoodIn wsX9_meets (wsV RX9 129 RX9 yX9_takesUp wsX9_takesUp) := goodIn_app (goodIn_of _ (by decide +kernel)) ggX9_meets_X9_takesUp
set_option maxRecDepth 20000 in
theorem ggX9_meets_X9_grows : GoodIn wsX9_meets wsX9_grows := goodIn_r _ [18, 1, 23, 24, 25, 26, 27, 28, 29, 30, 31, 32, 33, 34, 35, 36, 37, 38, 39, 40, 41, 42] (by decide +kernel) (by decide +kernel)
set_option maxRecDepth 20000 in
theorem gX9_meets_X9_grows : GoodIn wsX9_meets (wsV RX9 133 RX9 yX9_grows wsX9_grows) := goodIn_app (goodIn_of _ (by decide +kernel)) ggX9_meets_X9_grows
set_option maxRecDepth 20000 in
theorem ggX9_meets_X9_slows : GoodIn wsX9_meets wsX9_slows := goodIn_r _ [22, 1, 23, 24, 25, 26, 27, 28, 29, 30, 31, 32, 33, 34, 35, 36, 37, 38, 39, 40, 41, 42] (by decide +kernel) (by decide +kernel)
set_option maxRecDepth 20000 in
theorem gX9_meets_X9_slows : GoodIn wsX9_meets (wsV RX9 136 RX9 yX9_slows wsX9_slows) := goodIn_app (goodIn_of _ (by decide +kernel)) ggX9_meets_X9_slows
theorem dX9_meets_0 : decode cX9_meets 0 = .ok (.aload_n 0, 1) := by decide +kernel
theorem dX9_meets_1 : decode cX9_meets 1 = .ok (.iload_n 1, 1) := by decide +kernel
theorem dX9_meets_2 : decode cX9_meets 2 = .ok (.invokevirtual 82, 3) := by decide +kernel
theorem dX9_meets_5 : decode cX9_meets 5 = .ok (.istore_n 2, 1) := by decide +kernel
theorem dX9_meets_6 : decode cX9_meets 6 = .ok (.aload_n 0, 1) := by decide +kernel
theorem dX9_meets_7 : decode cX9_meets 7 = .ok (.iload_n 1, 1) := by decide +kernel
theorem dX9_meets_8 : decode cX9_meets 8 = .ok (.invokevirtual 85, 3) := by decide +kernel
theorem dX9_meets_11 : decode cX9_meets 11 = .ok (.istore_n 3, 1) := by decide +kernel
theorem dX9_meets_12 : decode cX9_meets 12 = .ok (.iload_n 2, 1) := by decide +kernel
theorem dX9_meets_13 : decode cX9_meets 13 = .ok (.iconst 1, 1) := by decide +kernel
theorem dX9_meets_14 : decode cX9_meets 14 = .ok (.if_icmp .eq 8, 3) := by decide +kernel
theorem dX9_meets_17 : decode cX9_meets 17 = .ok (.iload_n 2, 1) := by decide +kernel
theorem dX9_meets_18 : decode cX9_meets 18 = .ok (.iconst 3, 1) := by decide +kernel
theorem dX9_meets_19 : decode cX9_meets 19 = .ok (.if_icmp .ne 26, 3) := by decide +kernel
theorem dX9_meets_22 : decode cX9_meets 22 = .ok (.aload_n 0, 1) := by decide +kernel
theorem dX9_meets_23 : decode cX9_meets 23 = .ok (.iload_n 1, 1) := by decide +kernel
theorem dX9_meets_24 : decode cX9_meets 24 = .ok (.invokevirtual 129, 3) := by decide +kernel
theorem dX9_meets_27 : decode cX9_meets 27 = .ok (.aload_n 0, 1) := by decide +kernel
theorem dX9_meets_28 : decode cX9_meets 28 = .ok (.iload_n 2, 1) := by decide +kernel
theorem dX9_meets_29 : decode cX9_meets 29 = .ok (.iconst 1, 1) := by decide +kernel
theorem dX9_meets_30 : decode cX9_meets 30 = .ok (.if_icmp .ne 7, 3) := by decide +kernel
theorem dX9_meets_33 : decode cX9_meets 33 = .ok (.iload_n 3, 1) := by decide +kernel
theorem dX9_meets_34 : decode cX9_meets 34 = .ok (.goto 5, 3) := by decide +kernel
theorem dX9_meets_37 : decode cX9_meets 37 = .ok (.iload_n 3, 1) := by decide +kernel
theorem dX9_meets_38 : decode cX9_meets 38 = .ok (.ineg, 1) := by decide +kernel
theorem dX9_meets_39 : decode cX9_meets 39 = .ok (.invokevirtual 133, 3) := by decide +kernel
theorem dX9_meets_42 : decode cX9_meets 42 = .ok (.goto 60, 3) := by decide +kernel
theorem dX9_meets_45 : decode cX9_meets 45 = .ok (.iload_n 2, 1) := by decide +kernel
theorem dX9_meets_46 : decode cX9_meets 46 = .ok (.ifCond .eq 14, 3) := by decide +kernel
theorem dX9_meets_49 : decode cX9_meets 49 = .ok (.aload_n 0, 1) := by decide +kernel
theorem dX9_meets_50 : decode cX9_meets 50 = .ok (.getfield 7, 3) := by decide +kernel
theorem dX9_meets_53 : decode cX9_meets 53 = .ok (.iconst 4, 1) := by decide +kernel
theorem dX9_meets_54 : decode cX9_meets 54 = .ok (.iaload, 1) := by decide +kernel
theorem dX9_meets_55 : decode cX9_meets 55 = .ok (.bipush 15, 2) := by decide +kernel
theorem dX9_meets_57 : decode cX9_meets 57 = .ok (.if_icmp .ge 45, 3) := by decide +kernel
theorem dX9_meets_60 : decode cX9_meets 60 = .ok (.aload_n 0, 1) := by decide +kernel
theorem dX9_meets_61 : decode cX9_meets 61 = .ok (.getfield 7, 3) := by decide +kernel
theorem dX9_meets_64 : decode cX9_meets 64 = .ok (.iconst 3, 1) := by decide +kernel
theorem dX9_meets_65 : decode cX9_meets 65 = .ok (.iaload, 1) := by decide +kernel
theorem dX9_meets_66 : decode cX9_meets 66 = .ok (.iload_n 3, 1) := by decide +kernel
theorem dX9_meets_67 : decode cX9_meets 67 = .ok (.if_icmp .lt 30, 3) := by decide +kernel
theorem dX9_meets_70 : decode cX9_meets 70 = .ok (.aload_n 0, 1) := by decide +kernel
theorem dX9_meets_71 : decode cX9_meets 71 = .ok (.iload_n 1, 1) := by decide +kernel
theorem dX9_meets_72 : decode cX9_meets 72 = .ok (.invokevirtual 129, 3) := by decide +kernel
theorem dX9_meets_75 : decode cX9_meets 75 = .ok (.aload_n 0, 1) := by decide +kernel
theorem dX9_meets_76 : decode cX9_meets 76 = .ok (.iload_n 3, 1) := by decide +kernel
theorem dX9_meets_77 : decode cX9_meets 77 = .ok (.invokevirtual 133, 3) := by decide +kernel
theorem dX9_meets_80 : decode cX9_meets 80 = .ok (.aload_n 0, 1) := by decide +kernel
theorem dX9_meets_81 : decode cX9_meets 81 = .ok (.iload_n 2, 1) := by decide +kernel
theorem dX9_meets_82 : decode cX9_meets 82 = .ok (.iconst 4, 1) := by decide +kernel
theorem dX9_meets_83 : decode cX9_meets 83 = .ok (.if_icmp .ne 7, 3) := by decide +kernel
theorem dX9_meets_86 : decode cX9_meets 86 = .ok (.iload_n 3, 1) := by decide +kernel
theorem dX9_meets_87 : decode cX9_meets 87 = .ok (.goto 4, 3) := by decide +kernel
theorem dX9_meets_90 : decode cX9_meets 90 = .ok (.iconst 0, 1) := by decide +kernel
theorem dX9_meets_91 : decode cX9_meets 91 = .ok (.invokevirtual 133, 3) := by decide +kernel
theorem dX9_meets_94 : decode cX9_meets 94 = .ok (.goto 8, 3) := by decide +kernel
theorem dX9_meets_97 : decode cX9_meets 97 = .ok (.aload_n 0, 1) := by decide +kernel
theorem dX9_meets_98 : decode cX9_meets 98 = .ok (.iload_n 3, 1) := by decide +kernel
theorem dX9_meets_99 : decode cX9_meets 99 = .ok (.invokevirtual 136, 3) := by decide +kernel
theorem dX9_meets_102 : decode cX9_meets 102 = .ok (.return_, 1) := by decide +kernel
set_option maxRecDepth 20000 in
theorem ggX9_step_X9_slows : GoodIn wsX9_step wsX9_slows := goodIn_r _ [7, 1, 32, 33, 34, 35, 36, 37, 38, 39, 40, 41, 42, 43, 44, 45, 46, 47, 48, 49, 50, 51] (by decide +kernel) (by decide +kernel)
set_option maxRecDepth 20000 in
theorem gX9_step_X9_slows : GoodIn wsX9_step (wsV RX9 136 RX9 yX9_slows wsX9_slows) := goodIn_app (goodIn_of _ (by decide +kernel)) ggX9_step_X9_slows
set_option maxRecDepth 20000 in
theorem ggX9_step_X9_grows : GoodIn wsX9_step wsX9_grows := goodIn_r _ [11, 1, 32, 33, 34, 35, 36, 37, 38, 39, 40, 41, 42, 43, 44, 45, 46, 47, 48, 49, 50, 51] (by decide +kernel) (by decide +kernel)
set_option maxRecDepth 20000 in
theorem gX9_step_X9_grows : GoodIn wsX9_step (wsV RX9 133 RX9 yX9_grows wsX9_grows) := goodIn_app (goodIn_of _ (by decide +kernel)) ggX9_step_X9_grows
set_option maxRecDepth 20000 in
theorem ggX9_step_X9_where : GoodIn wsX9_step wsX9_where := goodIn_r _ [15, 1, 32, 33, 34, 35, 36, 37, 38, 39, 40, 41, 42, 43, 44, 45, 46, 47, 48, 49, 50, 51] (by decide +kernel) (by decide +kernel)
set_option maxRecDepth 20000 in
theorem gX9_step_X9_where : GoodIn wsX9_step (wsV RX9 55 RX9 yX9_where wsX9_where) := goodIn_app (goodIn_of _ (by decide +kernel)) ggX9_step_X9_where
set_option maxRecDepth 20000 in
theorem ggX9_step_X9_meets : GoodIn wsX9_step wsX9_meets := goodIn_r _ [19, 1, 20, 21, 22, 6, 23, 24, 25, 26, 27, 28, 29, 30, 31, 8, 9, 10, 11, 3, 4, 5, 7, 32, 33, 34, 35, 36, 37, 38, 39, 40, 41, 42, 43, 44, 45, 46, 47, 48, 49, 50, 51] (by decide +kernel) (by decide +kernel)
set_option maxRecDepth 20000 in
theorem gX9_step_X9_meets : GoodIn wsX9_step (wsV RX9 139 RX9 yX9_meets wsX9_meets) := goodIn_app (goodIn_of _ (by decide +kernel)) ggX9_step_X9_meets
theorem dX9_step_0 : decode cX9_step 0 = .ok (.aload_n 0, 1) := by decide +kernel
theorem dX9_step_1 : decode cX9_step 1 = .ok (.getfield 7, 3) := by decide +kernel
theorem dX9_step_4 : decode cX9_step 4 = .ok (.iconst 2, 1) := by decide +kernel
theorem dX9_step_5 : decode cX9_step 5 = .ok (.iaload, 1) := by decide +kernel
theorem dX9_step_6 : decode cX9_step 6 = .ok (.istore_n 1, 1) := by decide +kernel
theorem dX9_step_7 : decode cX9_step 7 = .ok (.iload_n 1, 1) := by decide +kernel
theorem dX9_step_8 : decode cX9_step 8 = .ok (.aload_n 0, 1) := by decide +kernel
theorem dX9_step_9 : decode cX9_step 9 = .ok (.getfield 22, 3) := by decide +kernel
theorem dX9_step_12 : decode cX9_step 12 = .ok (.if_icmp .ne 7, 3) := by decide +kernel
theorem dX9_step_15 : decode cX9_step 15 = .ok (.iconst 0, 1) := by decide +kernel
theorem dX9_step_16 : decode cX9_step 16 = .ok (.goto 12, 3) := by decide +kernel
theorem dX9_step_19 : decode cX9_step 19 = .ok (.aload_n 0, 1) := by decide +kernel
theorem dX9_step_20 : decode cX9_step 20 = .ok (.getfield 7, 3) := by decide +kernel
theorem dX9_step_23 : decode cX9_step 23 = .ok (.bipush 8, 2) := by decide +kernel
theorem dX9_step_25 : decode cX9_step 25 = .ok (.iload_n 1, 1) := by decide +kernel
theorem dX9_step_26 : decode cX9_step 26 = .ok (.iadd, 1) := by decide +kernel
theorem dX9_step_27 : decode cX9_step 27 = .ok (.iaload, 1) := by decide +kernel
theorem dX9_step_28 : decode cX9_step 28 = .ok (.istore_n 2, 1) := by decide +kernel
theorem dX9_step_29 : decode cX9_step 29 = .ok (.aload_n 0, 1) := by decide +kernel
theorem dX9_step_30 : decode cX9_step 30 = .ok (.getfield 7, 3) := by decide +kernel
theorem dX9_step_33 : decode cX9_step 33 = .ok (.iconst 4, 1) := by decide +kernel
theorem dX9_step_34 : decode cX9_step 34 = .ok (.iaload, 1) := by decide +kernel
theorem dX9_step_35 : decode cX9_step 35 = .ok (.iload_n 2, 1) := by decide +kernel
theorem dX9_step_36 : decode cX9_step 36 = .ok (.iadd, 1) := by decide +kernel
theorem dX9_step_37 : decode cX9_step 37 = .ok (.aload_n 0, 1) := by decide +kernel
theorem dX9_step_38 : decode cX9_step 38 = .ok (.getfield 7, 3) := by decide +kernel
theorem dX9_step_41 : decode cX9_step 41 = .ok (.iconst 3, 1) := by decide +kernel
theorem dX9_step_42 : decode cX9_step 42 = .ok (.iaload, 1) := by decide +kernel
theorem dX9_step_43 : decode cX9_step 43 = .ok (.bipush 10, 2) := by decide +kernel
theorem dX9_step_45 : decode cX9_step 45 = .ok (.idiv, 1) := by decide +kernel
theorem dX9_step_46 : decode cX9_step 46 = .ok (.isub, 1) := by decide +kernel
theorem dX9_step_47 : decode cX9_step 47 = .ok (.istore_n 3, 1) := by decide +kernel
theorem dX9_step_48 : decode cX9_step 48 = .ok (.aload_n 0, 1) := by decide +kernel
theorem dX9_step_49 : decode cX9_step 49 = .ok (.getfield 7, 3) := by decide +kernel
theorem dX9_step_52 : decode cX9_step 52 = .ok (.iconst 4, 1) := by decide +kernel
theorem dX9_step_53 : decode cX9_step 53 = .ok (.iload_n 3, 1) := by decide +kernel
theorem dX9_step_54 : decode cX9_step 54 = .ok (.ifCond .ge 7, 3) := by decide +kernel
theorem dX9_step_57 : decode cX9_step 57 = .ok (.iconst 0, 1) := by decide +kernel
theorem dX9_step_58 : decode cX9_step 58 = .ok (.goto 15, 3) := by decide +kernel
theorem dX9_step_61 : decode cX9_step 61 = .ok (.iload_n 3, 1) := by decide +kernel
theorem dX9_step_62 : decode cX9_step 62 = .ok (.bipush 99, 2) := by decide +kernel
theorem dX9_step_64 : decode cX9_step 64 = .ok (.if_icmp .le 8, 3) := by decide +kernel
theorem dX9_step_67 : decode cX9_step 67 = .ok (.bipush 99, 2) := by decide +kernel
theorem dX9_step_69 : decode cX9_step 69 = .ok (.goto 4, 3) := by decide +kernel
theorem dX9_step_72 : decode cX9_step 72 = .ok (.iload_n 3, 1) := by decide +kernel
theorem dX9_step_73 : decode cX9_step 73 = .ok (.iastore, 1) := by decide +kernel
theorem dX9_step_74 : decode cX9_step 74 = .ok (.aload_n 0, 1) := by decide +kernel
theorem dX9_step_75 : decode cX9_step 75 = .ok (.iload_n 1, 1) := by decide +kernel
theorem dX9_step_76 : decode cX9_step 76 = .ok (.aload_n 0, 1) := by decide +kernel
theorem dX9_step_77 : decode cX9_step 77 = .ok (.getfield 22, 3) := by decide +kernel
theorem dX9_step_80 : decode cX9_step 80 = .ok (.if_icmp .ne 8, 3) := by decide +kernel
theorem dX9_step_83 : decode cX9_step 83 = .ok (.bipush 20, 2) := by decide +kernel
theorem dX9_step_85 : decode cX9_step 85 = .ok (.goto 4, 3) := by decide +kernel
theorem dX9_step_88 : decode cX9_step 88 = .ok (.iconst 0, 1) := by decide +kernel
theorem dX9_step_89 : decode cX9_step 89 = .ok (.invokevirtual 136, 3) := by decide +kernel
theorem dX9_step_92 : decode cX9_step 92 = .ok (.aload_n 0, 1) := by decide +kernel
theorem dX9_step_93 : decode cX9_step 93 = .ok (.aload_n 0, 1) := by decide +kernel
theorem dX9_step_94 : decode cX9_step 94 = .ok (.getfield 7, 3) := by decide +kernel
theorem dX9_step_97 : decode cX9_step 97 = .ok (.bipush 32, 2) := by decide +kernel
theorem dX9_step_99 : decode cX9_step 99 = .ok (.iload_n 1, 1) := by decide +kernel
theorem dX9_step_100 : decode cX9_step 100 = .ok (.iadd, 1) := by decide +kernel
theorem dX9_step_101 : decode cX9_step 101 = .ok (.iaload, 1) := by decide +kernel
theorem dX9_step_102 : decode cX9_step 102 = .ok (.invokevirtual 133, 3) := by decide +kernel
theorem dX9_step_105 : decode cX9_step 105 = .ok (.aload_n 0, 1) := by decide +kernel
theorem dX9_step_106 : decode cX9_step 106 = .ok (.getfield 7, 3) := by decide +kernel
theorem dX9_step_109 : decode cX9_step 109 = .ok (.bipush 32, 2) := by decide +kernel
theorem dX9_step_111 : decode cX9_step 111 = .ok (.iload_n 1, 1) := by decide +kernel
theorem dX9_step_112 : decode cX9_step 112 = .ok (.iadd, 1) := by decide +kernel
theorem dX9_step_113 : decode cX9_step 113 = .ok (.iconst 0, 1) := by decide +kernel
theorem dX9_step_114 : decode cX9_step 114 = .ok (.iastore, 1) := by decide +kernel
theorem dX9_step_115 : decode cX9_step 115 = .ok (.iconst 0, 1) := by decide +kernel
theorem dX9_step_116 : decode cX9_step 116 = .ok (.istore 4, 2) := by decide +kernel
theorem dX9_step_118 : decode cX9_step 118 = .ok (.iload 4, 2) := by decide +kernel
theorem dX9_step_120 : decode cX9_step 120 = .ok (.aload_n 0, 1) := by decide +kernel
theorem dX9_step_121 : decode cX9_step 121 = .ok (.getfield 7, 3) := by decide +kernel
theorem dX9_step_124 : decode cX9_step 124 = .ok (.iconst 1, 1) := by decide +kernel
theorem dX9_step_125 : decode cX9_step 125 = .ok (.iaload, 1) := by decide +kernel
theorem dX9_step_126 : decode cX9_step 126 = .ok (.if_icmp .ge 25, 3) := by decide +kernel
theorem dX9_step_129 : decode cX9_step 129 = .ok (.aload_n 0, 1) := by decide +kernel
theorem dX9_step_130 : decode cX9_step 130 = .ok (.iload 4, 2) := by decide +kernel
theorem dX9_step_132 : decode cX9_step 132 = .ok (.invokevirtual 55, 3) := by decide +kernel
theorem dX9_step_135 : decode cX9_step 135 = .ok (.iload_n 1, 1) := by decide +kernel
theorem dX9_step_136 : decode cX9_step 136 = .ok (.if_icmp .ne 9, 3) := by decide +kernel
theorem dX9_step_139 : decode cX9_step 139 = .ok (.aload_n 0, 1) := by decide +kernel
theorem dX9_step_140 : decode cX9_step 140 = .ok (.iload 4, 2) := by decide +kernel
theorem dX9_step_142 : decode cX9_step 142 = .ok (.invokevirtual 139, 3) := by decide +kernel
theorem dX9_step_145 : decode cX9_step 145 = .ok (.iinc 4 1, 3) := by decide +kernel
theorem dX9_step_148 : decode cX9_step 148 = .ok (.goto (-30), 3) := by decide +kernel
theorem dX9_step_151 : decode cX9_step 151 = .ok (.aload_n 0, 1) := by decide +kernel
theorem dX9_step_152 : decode cX9_step 152 = .ok (.getfield 7, 3) := by decide +kernel
theorem dX9_step_155 : decode cX9_step 155 = .ok (.iconst 4, 1) := by decide +kernel
theorem dX9_step_156 : decode cX9_step 156 = .ok (.iaload, 1) := by decide +kernel
theorem dX9_step_157 : decode cX9_step 157 = .ok (.ifCond .ne 11, 3) := by decide +kernel
theorem dX9_step_160 : decode cX9_step 160 = .ok (.aload_n 0, 1) := by decide +kernel
theorem dX9_step_161 : decode cX9_step 161 = .ok (.getfield 7, 3) := by decide +kernel
theorem dX9_step_164 : decode cX9_step 164 = .ok (.iconst 5, 1) := by decide +kernel
theorem dX9_step_165 : decode cX9_step 165 = .ok (.iconst 1, 1) := by decide +kernel
theorem dX9_step_166 : decode cX9_step 166 = .ok (.iastore, 1) := by decide +kernel
theorem dX9_step_167 : decode cX9_step 167 = .ok (.return_, 1) := by decide +kernel
theorem dX9_step_168 : decode cX9_step 168 = .ok (.aload_n 0, 1) := by decide +kernel
theorem dX9_step_169 : decode cX9_step 169 = .ok (.getfield 7, 3) := by decide +kernel
theorem dX9_step_172 : decode cX9_step 172 = .ok (.iconst 2, 1) := by decide +kernel
theorem dX9_step_173 : decode cX9_step 173 = .ok (.iload_n 1, 1) := by decide +kernel
theorem dX9_step_174 : decode cX9_step 174 = .ok (.iconst 1, 1) := by decide +kernel
theorem dX9_step_175 : decode cX9_step 175 = .ok (.iadd, 1) := by decide +kernel
theorem dX9_step_176 : decode cX9_step 176 = .ok (.aload_n 0, 1) := by decide +kernel
theorem dX9_step_177 : decode cX9_step 177 = .ok (.getfield 7, 3) := by decide +kernel
theorem dX9_step_180 : decode cX9_step 180 = .ok (.iconst 4, 1) := by decide +kernel
theorem dX9_step_181 : decode cX9_step 181 = .ok (.iaload, 1) := by decide +kernel
theorem dX9_step_182 : decode cX9_step 182 = .ok (.bipush 20, 2) := by decide +kernel
theorem dX9_step_184 : decode cX9_step 184 = .ok (.idiv, 1) := by decide +kernel
theorem dX9_step_185 : decode cX9_step 185 = .ok (.iadd, 1) := by decide +kernel
theorem dX9_step_186 : decode cX9_step 186 = .ok (.iastore, 1) := by decide +kernel
theorem dX9_step_187 : decode cX9_step 187 = .ok (.aload_n 0, 1) := by decide +kernel
theorem dX9_step_188 : decode cX9_step 188 = .ok (.getfield 7, 3) := by decide +kernel
theorem dX9_step_191 : decode cX9_step 191 = .ok (.iconst 2, 1) := by decide +kernel
theorem dX9_step_192 : decode cX9_step 192 = .ok (.iaload, 1) := by decide +kernel
theorem dX9_step_193 : decode cX9_step 193 = .ok (.aload_n 0, 1) := by decide +kernel
theorem dX9_step_194 : decode cX9_step 194 = .ok (.getfield 7, 3) := by decide +kernel
theorem dX9_step_197 : decode cX9_step 197 = .ok (.iconst 0, 1) := by decide +kernel
theorem dX9_step_198 : decode cX9_step 198 = .ok (.iaload, 1) := by decide +kernel
theorem dX9_step_199 : decode cX9_step 199 = .ok (.if_icmp .lt 22, 3) := by decide +kernel
theorem dX9_step_202 : decode cX9_step 202 = .ok (.aload_n 0, 1) := by decide +kernel
theorem dX9_step_203 : decode cX9_step 203 = .ok (.getfield 7, 3) := by decide +kernel
theorem dX9_step_206 : decode cX9_step 206 = .ok (.iconst 2, 1) := by decide +kernel
theorem dX9_step_207 : decode cX9_step 207 = .ok (.aload_n 0, 1) := by decide +kernel
theorem dX9_step_208 : decode cX9_step 208 = .ok (.getfield 7, 3) := by decide +kernel
theorem dX9_step_211 : decode cX9_step 211 = .ok (.iconst 0, 1) := by decide +kernel
theorem dX9_step_212 : decode cX9_step 212 = .ok (.iaload, 1) := by decide +kernel
theorem dX9_step_213 : decode cX9_step 213 = .ok (.iastore, 1) := by decide +kernel
theorem dX9_step_214 : decode cX9_step 214 = .ok (.aload_n 0, 1) := by decide +kernel
theorem dX9_step_215 : decode cX9_step 215 = .ok (.getfield 7, 3) := by decide +kernel
theorem dX9_step_218 : decode cX9_step 218 = .ok (.iconst 5, 1) := by decide +kernel
theorem dX9_step_219 : decode cX9_step 219 = .ok (.iconst 1, 1) := by decide +kernel
theorem dX9_step_220 : decode cX9_step 220 = .ok (.iastore, 1) := by decide +kernel
theorem dX9_step_221 : decode cX9_step 221 = .ok (.return_, 1) := by decide +kernel
theorem dX9_isAtRest_0 : decode cX9_isAtRest 0 = .ok (.aload_n 0, 1) := by decide +kernel
theorem dX9_isAtRest_1 : decode cX9_isAtRest 1 = .ok (.getfield 7, 3) := by decide +kernel
theorem dX9_isAtRest_4 : decode cX9_isAtRest 4 = .ok (.iconst 5, 1) := by decide +kernel
theorem dX9_isAtRest_5 : decode cX9_isAtRest 5 = .ok (.iaload, 1) := by decide +kernel
theorem dX9_isAtRest_6 : decode cX9_isAtRest 6 = .ok (.iconst 1, 1) := by decide +kernel
theorem dX9_isAtRest_7 : decode cX9_isAtRest 7 = .ok (.if_icmp .ne 7, 3) := by decide +kernel
theorem dX9_isAtRest_10 : decode cX9_isAtRest 10 = .ok (.iconst 1, 1) := by decide +kernel
theorem dX9_isAtRest_11 : decode cX9_isAtRest 11 = .ok (.goto 4, 3) := by decide +kernel
theorem dX9_isAtRest_14 : decode cX9_isAtRest 14 = .ok (.iconst 0, 1) := by decide +kernel
theorem dX9_isAtRest_15 : decode cX9_isAtRest 15 = .ok (.ireturn, 1) := by decide +kernel
theorem dX9_letsGo_0 : decode cX9_letsGo 0 = .ok (.aload_n 0, 1) := by decide +kernel
theorem dX9_letsGo_1 : decode cX9_letsGo 1 = .ok (.getfield 7, 3) := by decide +kernel
theorem dX9_letsGo_4 : decode cX9_letsGo 4 = .ok (.bipush 6, 2) := by decide +kernel
theorem dX9_letsGo_6 : decode cX9_letsGo 6 = .ok (.iaload, 1) := by decide +kernel
theorem dX9_letsGo_7 : decode cX9_letsGo 7 = .ok (.istore_n 3, 1) := by decide +kernel
theorem dX9_letsGo_8 : decode cX9_letsGo 8 = .ok (.iconst 0, 1) := by decide +kernel
theorem dX9_letsGo_9 : decode cX9_letsGo 9 = .ok (.istore 4, 2) := by decide +kernel
theorem dX9_letsGo_11 : decode cX9_letsGo 11 = .ok (.iload 4, 2) := by decide +kernel
theorem dX9_letsGo_13 : decode cX9_letsGo 13 = .ok (.iload_n 3, 1) := by decide +kernel
theorem dX9_letsGo_14 : decode cX9_letsGo 14 = .ok (.if_icmp .ge 33, 3) := by decide +kernel
theorem dX9_letsGo_17 : decode cX9_letsGo 17 = .ok (.aload_n 0, 1) := by decide +kernel
theorem dX9_letsGo_18 : decode cX9_letsGo 18 = .ok (.getfield 7, 3) := by decide +kernel
theorem dX9_letsGo_21 : decode cX9_letsGo 21 = .ok (.bipush 56, 2) := by decide +kernel
theorem dX9_letsGo_23 : decode cX9_letsGo 23 = .ok (.iconst 3, 1) := by decide +kernel
theorem dX9_letsGo_24 : decode cX9_letsGo 24 = .ok (.aload_n 0, 1) := by decide +kernel
theorem dX9_letsGo_25 : decode cX9_letsGo 25 = .ok (.getfield 7, 3) := by decide +kernel
theorem dX9_letsGo_28 : decode cX9_letsGo 28 = .ok (.bipush 80, 2) := by decide +kernel
theorem dX9_letsGo_30 : decode cX9_letsGo 30 = .ok (.iload 4, 2) := by decide +kernel
theorem dX9_letsGo_32 : decode cX9_letsGo 32 = .ok (.iadd, 1) := by decide +kernel
theorem dX9_letsGo_33 : decode cX9_letsGo 33 = .ok (.iaload, 1) := by decide +kernel
theorem dX9_letsGo_34 : decode cX9_letsGo 34 = .ok (.imul, 1) := by decide +kernel
theorem dX9_letsGo_35 : decode cX9_letsGo 35 = .ok (.iadd, 1) := by decide +kernel
theorem dX9_letsGo_36 : decode cX9_letsGo 36 = .ok (.iconst 2, 1) := by decide +kernel
theorem dX9_letsGo_37 : decode cX9_letsGo 37 = .ok (.iadd, 1) := by decide +kernel
theorem dX9_letsGo_38 : decode cX9_letsGo 38 = .ok (.bipush (-2), 2) := by decide +kernel
theorem dX9_letsGo_40 : decode cX9_letsGo 40 = .ok (.iastore, 1) := by decide +kernel
theorem dX9_letsGo_41 : decode cX9_letsGo 41 = .ok (.iinc 4 1, 3) := by decide +kernel
theorem dX9_letsGo_44 : decode cX9_letsGo 44 = .ok (.goto (-33), 3) := by decide +kernel
theorem dX9_letsGo_47 : decode cX9_letsGo 47 = .ok (.aload_n 0, 1) := by decide +kernel
theorem dX9_letsGo_48 : decode cX9_letsGo 48 = .ok (.getfield 7, 3) := by decide +kernel
theorem dX9_letsGo_51 : decode cX9_letsGo 51 = .ok (.bipush 6, 2) := by decide +kernel
theorem dX9_letsGo_53 : decode cX9_letsGo 53 = .ok (.iconst 0, 1) := by decide +kernel
theorem dX9_letsGo_54 : decode cX9_letsGo 54 = .ok (.iastore, 1) := by decide +kernel
theorem dX9_letsGo_55 : decode cX9_letsGo 55 = .ok (.aload_n 0, 1) := by decide +kernel
theorem dX9_letsGo_56 : decode cX9_letsGo 56 = .ok (.getfield 7, 3) := by decide +kernel
theorem dX9_letsGo_59 : decode cX9_letsGo 59 = .ok (.iconst 2, 1) := by decide +kernel
theorem dX9_letsGo_60 : decode cX9_letsGo 60 = .ok (.iconst 0, 1) := by decide +kernel
theorem dX9_letsGo_61 : decode cX9_letsGo 61 = .ok (.iastore, 1) := by decide +kernel
theorem dX9_letsGo_62 : decode cX9_letsGo 62 = .ok (.aload_n 0, 1) := by decide +kernel
theorem dX9_letsGo_63 : decode cX9_letsGo 63 = .ok (.getfield 7, 3) := by decide +kernel
theorem dX9_letsGo_66 : decode cX9_letsGo 66 = .ok (.iconst 3, 1) := by decide +kernel
theorem dX9_letsGo_67 : decode cX9_letsGo 67 = .ok (.iload_n 1, 1) := by decide +kernel
theorem dX9_letsGo_68 : decode cX9_letsGo 68 = .ok (.iastore, 1) := by decide +kernel
theorem dX9_letsGo_69 : decode cX9_letsGo 69 = .ok (.aload_n 0, 1) := by decide +kernel
theorem dX9_letsGo_70 : decode cX9_letsGo 70 = .ok (.getfield 7, 3) := by decide +kernel
theorem dX9_letsGo_73 : decode cX9_letsGo 73 = .ok (.iconst 4, 1) := by decide +kernel
theorem dX9_letsGo_74 : decode cX9_letsGo 74 = .ok (.iload_n 2, 1) := by decide +kernel
theorem dX9_letsGo_75 : decode cX9_letsGo 75 = .ok (.iastore, 1) := by decide +kernel
theorem dX9_letsGo_76 : decode cX9_letsGo 76 = .ok (.aload_n 0, 1) := by decide +kernel
theorem dX9_letsGo_77 : decode cX9_letsGo 77 = .ok (.getfield 7, 3) := by decide +kernel
theorem dX9_letsGo_80 : decode cX9_letsGo 80 = .ok (.iconst 5, 1) := by decide +kernel
theorem dX9_letsGo_81 : decode cX9_letsGo 81 = .ok (.iconst 0, 1) := by decide +kernel
theorem dX9_letsGo_82 : decode cX9_letsGo 82 = .ok (.iastore, 1) := by decide +kernel
theorem dX9_letsGo_83 : decode cX9_letsGo 83 = .ok (.iload_n 3, 1) := by decide +kernel
theorem dX9_letsGo_84 : decode cX9_letsGo 84 = .ok (.ireturn, 1) := by decide +kernel
set_option maxRecDepth 20000 in
theorem ggX9_notes_X9_where : GoodIn wsX9_notes wsX9_where := goodIn_r _ [8, 3, 9, 10, 11, 12, 13, 14, 15, 16, 17, 18, 19, 20, 21, 22, 23, 24, 25, 26, 27, 28] (by decide +kernel) (by decide +kernel)
set_option maxRecDepth 20000 in
theorem gX9_notes_X9_where : GoodIn wsX9_notes (wsV RX9 55 RX9 yX9_where wsX9_where) := goodIn_app (goodIn_of _ (by decide +kernel)) ggX9_notes_X9_where
theorem dX9_notes_0 : decode cX9_notes 0 = .ok (.aload_n 0, 1) := by decide +kernel
theorem dX9_notes_1 : decode cX9_notes 1 = .ok (.getfield 70, 3) := by decide +kernel
theorem dX9_notes_4 : decode cX9_notes 4 = .ok (.bipush 8, 2) := by decide +kernel
theorem dX9_notes_6 : decode cX9_notes 6 = .ok (.if_icmp .ne 40, 3) := by decide +kernel
theorem dX9_notes_9 : decode cX9_notes 9 = .ok (.bipush 46, 2) := by decide +kernel
theorem dX9_notes_11 : decode cX9_notes 11 = .ok (.istore_n 1, 1) := by decide +kernel
theorem dX9_notes_12 : decode cX9_notes 12 = .ok (.iload_n 1, 1) := by decide +kernel
theorem dX9_notes_13 : decode cX9_notes 13 = .ok (.sipush 368, 3) := by decide +kernel
theorem dX9_notes_16 : decode cX9_notes 16 = .ok (.if_icmp .ge 24, 3) := by decide +kernel
theorem dX9_notes_19 : decode cX9_notes 19 = .ok (.aload_n 0, 1) := by decide +kernel
theorem dX9_notes_20 : decode cX9_notes 20 = .ok (.getfield 26, 3) := by decide +kernel
theorem dX9_notes_23 : decode cX9_notes 23 = .ok (.iload_n 1, 1) := by decide +kernel
theorem dX9_notes_24 : decode cX9_notes 24 = .ok (.bipush 46, 2) := by decide +kernel
theorem dX9_notes_26 : decode cX9_notes 26 = .ok (.isub, 1) := by decide +kernel
theorem dX9_notes_27 : decode cX9_notes 27 = .ok (.aload_n 0, 1) := by decide +kernel
theorem dX9_notes_28 : decode cX9_notes 28 = .ok (.getfield 26, 3) := by decide +kernel
theorem dX9_notes_31 : decode cX9_notes 31 = .ok (.iload_n 1, 1) := by decide +kernel
theorem dX9_notes_32 : decode cX9_notes 32 = .ok (.iaload, 1) := by decide +kernel
theorem dX9_notes_33 : decode cX9_notes 33 = .ok (.iastore, 1) := by decide +kernel
theorem dX9_notes_34 : decode cX9_notes 34 = .ok (.iinc 1 1, 3) := by decide +kernel
theorem dX9_notes_37 : decode cX9_notes 37 = .ok (.goto (-25), 3) := by decide +kernel
theorem dX9_notes_40 : decode cX9_notes 40 = .ok (.aload_n 0, 1) := by decide +kernel
theorem dX9_notes_41 : decode cX9_notes 41 = .ok (.bipush 7, 2) := by decide +kernel
theorem dX9_notes_43 : decode cX9_notes 43 = .ok (.putfield 70, 3) := by decide +kernel
theorem dX9_notes_46 : decode cX9_notes 46 = .ok (.bipush 46, 2) := by decide +kernel
theorem dX9_notes_48 : decode cX9_notes 48 = .ok (.aload_n 0, 1) := by decide +kernel
theorem dX9_notes_49 : decode cX9_notes 49 = .ok (.getfield 70, 3) := by decide +kernel
theorem dX9_notes_52 : decode cX9_notes 52 = .ok (.imul, 1) := by decide +kernel
theorem dX9_notes_53 : decode cX9_notes 53 = .ok (.istore_n 1, 1) := by decide +kernel
theorem dX9_notes_54 : decode cX9_notes 54 = .ok (.iconst 0, 1) := by decide +kernel
theorem dX9_notes_55 : decode cX9_notes 55 = .ok (.istore_n 2, 1) := by decide +kernel
theorem dX9_notes_56 : decode cX9_notes 56 = .ok (.iload_n 2, 1) := by decide +kernel
theorem dX9_notes_57 : decode cX9_notes 57 = .ok (.bipush 6, 2) := by decide +kernel
theorem dX9_notes_59 : decode cX9_notes 59 = .ok (.if_icmp .ge 25, 3) := by decide +kernel
theorem dX9_notes_62 : decode cX9_notes 62 = .ok (.aload_n 0, 1) := by decide +kernel
theorem dX9_notes_63 : decode cX9_notes 63 = .ok (.getfield 26, 3) := by decide +kernel
theorem dX9_notes_66 : decode cX9_notes 66 = .ok (.iload_n 1, 1) := by decide +kernel
theorem dX9_notes_67 : decode cX9_notes 67 = .ok (.iload_n 2, 1) := by decide +kernel
theorem dX9_notes_68 : decode cX9_notes 68 = .ok (.iadd, 1) := by decide +kernel
theorem dX9_notes_69 : decode cX9_notes 69 = .ok (.aload_n 0, 1) := by decide +kernel
theorem dX9_notes_70 : decode cX9_notes 70 = .ok (.getfield 7, 3) := by decide +kernel
theorem dX9_notes_73 : decode cX9_notes 73 = .ok (.iconst 2, 1) := by decide +kernel
theorem dX9_notes_74 : decode cX9_notes 74 = .ok (.iload_n 2, 1) := by decide +kernel
theorem dX9_notes_75 : decode cX9_notes 75 = .ok (.iadd, 1) := by decide +kernel
theorem dX9_notes_76 : decode cX9_notes 76 = .ok (.iaload, 1) := by decide +kernel
theorem dX9_notes_77 : decode cX9_notes 77 = .ok (.iastore, 1) := by decide +kernel
theorem dX9_notes_78 : decode cX9_notes 78 = .ok (.iinc 2 1, 3) := by decide +kernel
theorem dX9_notes_81 : decode cX9_notes 81 = .ok (.goto (-25), 3) := by decide +kernel
theorem dX9_notes_84 : decode cX9_notes 84 = .ok (.iconst 0, 1) := by decide +kernel
theorem dX9_notes_85 : decode cX9_notes 85 = .ok (.istore_n 2, 1) := by decide +kernel
theorem dX9_notes_86 : decode cX9_notes 86 = .ok (.iload_n 2, 1) := by decide +kernel
theorem dX9_notes_87 : decode cX9_notes 87 = .ok (.bipush 24, 2) := by decide +kernel
theorem dX9_notes_89 : decode cX9_notes 89 = .ok (.if_icmp .ge 29, 3) := by decide +kernel
theorem dX9_notes_92 : decode cX9_notes 92 = .ok (.aload_n 0, 1) := by decide +kernel
theorem dX9_notes_93 : decode cX9_notes 93 = .ok (.getfield 26, 3) := by decide +kernel
theorem dX9_notes_96 : decode cX9_notes 96 = .ok (.iload_n 1, 1) := by decide +kernel
theorem dX9_notes_97 : decode cX9_notes 97 = .ok (.bipush 6, 2) := by decide +kernel
theorem dX9_notes_99 : decode cX9_notes 99 = .ok (.iadd, 1) := by decide +kernel
theorem dX9_notes_100 : decode cX9_notes 100 = .ok (.iload_n 2, 1) := by decide +kernel
theorem dX9_notes_101 : decode cX9_notes 101 = .ok (.iadd, 1) := by decide +kernel
theorem dX9_notes_102 : decode cX9_notes 102 = .ok (.aload_n 0, 1) := by decide +kernel
theorem dX9_notes_103 : decode cX9_notes 103 = .ok (.getfield 7, 3) := by decide +kernel
theorem dX9_notes_106 : decode cX9_notes 106 = .ok (.bipush 32, 2) := by decide +kernel
theorem dX9_notes_108 : decode cX9_notes 108 = .ok (.iload_n 2, 1) := by decide +kernel
theorem dX9_notes_109 : decode cX9_notes 109 = .ok (.iadd, 1) := by decide +kernel
theorem dX9_notes_110 : decode cX9_notes 110 = .ok (.iaload, 1) := by decide +kernel
theorem dX9_notes_111 : decode cX9_notes 111 = .ok (.iastore, 1) := by decide +kernel
theorem dX9_notes_112 : decode cX9_notes 112 = .ok (.iinc 2 1, 3) := by decide +kernel
theorem dX9_notes_115 : decode cX9_notes 115 = .ok (.goto (-29), 3) := by decide +kernel
theorem dX9_notes_118 : decode cX9_notes 118 = .ok (.iconst 0, 1) := by decide +kernel
theorem dX9_notes_119 : decode cX9_notes 119 = .ok (.istore_n 2, 1) := by decide +kernel
theorem dX9_notes_120 : decode cX9_notes 120 = .ok (.iload_n 2, 1) := by decide +kernel
theorem dX9_notes_121 : decode cX9_notes 121 = .ok (.bipush 8, 2) := by decide +kernel
theorem dX9_notes_123 : decode cX9_notes 123 = .ok (.if_icmp .ge 45, 3) := by decide +kernel
theorem dX9_notes_126 : decode cX9_notes 126 = .ok (.aload_n 0, 1) := by decide +kernel
theorem dX9_notes_127 : decode cX9_notes 127 = .ok (.getfield 26, 3) := by decide +kernel
theorem dX9_notes_130 : decode cX9_notes 130 = .ok (.iload_n 1, 1) := by decide +kernel
theorem dX9_notes_131 : decode cX9_notes 131 = .ok (.bipush 30, 2) := by decide +kernel
theorem dX9_notes_133 : decode cX9_notes 133 = .ok (.iadd, 1) := by decide +kernel
theorem dX9_notes_134 : decode cX9_notes 134 = .ok (.iload_n 2, 1) := by decide +kernel
theorem dX9_notes_135 : decode cX9_notes 135 = .ok (.iadd, 1) := by decide +kernel
theorem dX9_notes_136 : decode cX9_notes 136 = .ok (.aload_n 0, 1) := by decide +kernel
theorem dX9_notes_137 : decode cX9_notes 137 = .ok (.iload_n 2, 1) := by decide +kernel
theorem dX9_notes_138 : decode cX9_notes 138 = .ok (.invokevirtual 55, 3) := by decide +kernel
theorem dX9_notes_141 : decode cX9_notes 141 = .ok (.iastore, 1) := by decide +kernel
theorem dX9_notes_142 : decode cX9_notes 142 = .ok (.aload_n 0, 1) := by decide +kernel
theorem dX9_notes_143 : decode cX9_notes 143 = .ok (.getfield 26, 3) := by decide +kernel
theorem dX9_notes_146 : decode cX9_notes 146 = .ok (.iload_n 1, 1) := by decide +kernel
theorem dX9_notes_147 : decode cX9_notes 147 = .ok (.bipush 38, 2) := by decide +kernel
theorem dX9_notes_149 : decode cX9_notes 149 = .ok (.iadd, 1) := by decide +kernel
theorem dX9_notes_150 : decode cX9_notes 150 = .ok (.iload_n 2, 1) := by decide +kernel
theorem dX9_notes_151 : decode cX9_notes 151 = .ok (.iadd, 1) := by decide +kernel
theorem dX9_notes_152 : decode cX9_notes 152 = .ok (.aload_n 0, 1) := by decide +kernel
theorem dX9_notes_153 : decode cX9_notes 153 = .ok (.getfield 7, 3) := by decide +kernel
theorem dX9_notes_156 : decode cX9_notes 156 = .ok (.bipush 80, 2) := by decide +kernel
theorem dX9_notes_158 : decode cX9_notes 158 = .ok (.iload_n 2, 1) := by decide +kernel
theorem dX9_notes_159 : decode cX9_notes 159 = .ok (.iadd, 1) := by decide +kernel
theorem dX9_notes_160 : decode cX9_notes 160 = .ok (.iaload, 1) := by decide +kernel
theorem dX9_notes_161 : decode cX9_notes 161 = .ok (.iastore, 1) := by decide +kernel
theorem dX9_notes_162 : decode cX9_notes 162 = .ok (.iinc 2 1, 3) := by decide +kernel
theorem dX9_notes_165 : decode cX9_notes 165 = .ok (.goto (-45), 3) := by decide +kernel
theorem dX9_notes_168 : decode cX9_notes 168 = .ok (.aload_n 0, 1) := by decide +kernel
theorem dX9_notes_169 : decode cX9_notes 169 = .ok (.dup, 1) := by decide +kernel
theorem dX9_notes_170 : decode cX9_notes 170 = .ok (.getfield 70, 3) := by decide +kernel
theorem dX9_notes_173 : decode cX9_notes 173 = .ok (.iconst 1, 1) := by decide +kernel
theorem dX9_notes_174 : decode cX9_notes 174 = .ok (.iadd, 1) := by decide +kernel
theorem dX9_notes_175 : decode cX9_notes 175 = .ok (.putfield 70, 3) := by decide +kernel
theorem dX9_notes_178 : decode cX9_notes 178 = .ok (.return_, 1) := by decide +kernel
set_option maxRecDepth 20000 in
theorem ggX9_go_X9_in : GoodIn wsX9_go wsX9_in := goodIn_r _ [5] (by decide +kernel) (by decide +kernel)
set_option maxRecDepth 20000 in
theorem gX9_go_X9_in : GoodIn wsX9_go (va_wsS RX9 51 yX9_in wsX9_in) := goodIn_app (goodIn_of _ (by decide +kernel)) ggX9_go_X9_in
set_option maxRecDepth 20000 in
theorem ggX9_go_X9_notes : GoodIn wsX9_go wsX9_notes := goodIn_r _ [9, 10, 11, 12, 13, 14, 15, 4, 16, 21, 22, 23, 24, 25, 26, 27, 28, 29, 30, 31, 32, 33, 34, 35, 36, 37, 38, 39, 40] (by decide +kernel) (by decide +kernel)
set_option maxRecDepth 20000 in
theorem gX9_go_X9_notes : GoodIn wsX9_go (wsV RX9 144 RX9 yX9_notes wsX9_notes) := goodIn_app (goodIn_of _ (by decide +kernel)) ggX9_go_X9_notes
set_option maxRecDepth 20000 in
theorem ggX9_go_X9_letsGo : GoodIn wsX9_go wsX9_letsGo := goodIn_r _ [20, 12, 21, 22, 23, 24, 25, 26, 27, 28, 29, 30, 31, 32, 33, 34, 35, 36, 37, 38, 39, 40] (by decide +kernel) (by decide +kernel)
set_option maxRecDepth 20000 in
theorem gX9_go_X9_letsGo : GoodIn wsX9_go (wsV RX9 147 RX9 yX9_letsGo wsX9_letsGo) := goodIn_app (goodIn_of _ (by decide +kernel)) ggX9_go_X9_letsGo
theorem dX9_go_0 : decode cX9_go 0 = .ok (.iload_n 1, 1) := by decide +kernel
theorem dX9_go_1 : decode cX9_go 1 = .ok (.i2l, 1) := by decide +kernel
theorem dX9_go_2 : decode cX9_go 2 = .ok (.lconst 1, 1) := by decide +kernel
theorem dX9_go_3 : decode cX9_go 3 = .ok (.ldc2_w 142, 3) := by decide +kernel
theorem dX9_go_6 : decode cX9_go 6 = .ok (.invokestatic 51, 3) := by decide +kernel
theorem dX9_go_9 : decode cX9_go 9 = .ok (.ifCond .eq 15, 3) := by decide +kernel
theorem dX9_go_12 : decode cX9_go 12 = .ok (.iload_n 2, 1) := by decide +kernel
theorem dX9_go_13 : decode cX9_go 13 = .ok (.i2l, 1) := by decide +kernel
theorem dX9_go_14 : decode cX9_go 14 = .ok (.lconst 0, 1) := by decide +kernel
theorem dX9_go_15 : decode cX9_go 15 = .ok (.ldc2_w 142, 3) := by decide +kernel
theorem dX9_go_18 : decode cX9_go 18 = .ok (.invokestatic 51, 3) := by decide +kernel
theorem dX9_go_21 : decode cX9_go 21 = .ok (.ifCond .ne 5, 3) := by decide +kernel
theorem dX9_go_24 : decode cX9_go 24 = .ok (.iconst (-1), 1) := by decide +kernel
theorem dX9_go_25 : decode cX9_go 25 = .ok (.ireturn, 1) := by decide +kernel
theorem dX9_go_26 : decode cX9_go 26 = .ok (.aload_n 0, 1) := by decide +kernel
theorem dX9_go_27 : decode cX9_go 27 = .ok (.invokevirtual 144, 3) := by decide +kernel
theorem dX9_go_30 : decode cX9_go 30 = .ok (.aload_n 0, 1) := by decide +kernel
theorem dX9_go_31 : decode cX9_go 31 = .ok (.iload_n 1, 1) := by decide +kernel
theorem dX9_go_32 : decode cX9_go 32 = .ok (.iload_n 2, 1) := by decide +kernel
theorem dX9_go_33 : decode cX9_go 33 = .ok (.invokevirtual 147, 3) := by decide +kernel
theorem dX9_go_36 : decode cX9_go 36 = .ok (.ireturn, 1) := by decide +kernel
set_option maxRecDepth 20000 in
theorem ggX9_steps_X9_in : GoodIn wsX9_steps wsX9_in := goodIn_r _ [5] (by decide +kernel) (by decide +kernel)
set_option maxRecDepth 20000 in
theorem gX9_steps_X9_in : GoodIn wsX9_steps (va_wsS RX9 51 yX9_in wsX9_in) := goodIn_app (goodIn_of _ (by decide +kernel)) ggX9_steps_X9_in
set_option maxRecDepth 20000 in
theorem ggX9_steps_X9_isAtRest : GoodIn wsX9_steps wsX9_isAtRest := goodIn_r _ [9, 10, 50, 51, 52, 53, 54, 55, 56, 57, 58, 59, 60, 61, 62, 63, 64, 65, 66, 67, 68, 69] (by decide +kernel) (by decide +kernel)
set_option maxRecDepth 20000 in
theorem gX9_steps_X9_isAtRest : GoodIn wsX9_steps (wsV RX9 153 RX9 yX9_isAtRest wsX9_isAtRest) := goodIn_app (goodIn_of _ (by decide +kernel)) ggX9_steps_X9_isAtRest
set_option maxRecDepth 20000 in
theorem ggX9_steps_X9_notes : GoodIn wsX9_steps wsX9_notes := goodIn_r _ [14, 15, 16, 10, 17, 18, 19, 4, 20, 50, 51, 52, 53, 54, 55, 56, 57, 58, 59, 60, 61, 62, 63, 64, 65, 66, 67, 68, 69] (by decide +kernel) (by decide +kernel)
set_option maxRecDepth 20000 in
theorem gX9_steps_X9_notes : GoodIn wsX9_steps (wsV RX9 144 RX9 yX9_notes wsX9_notes) := goodIn_app (goodIn_of _ (by decide +kernel)) ggX9_steps_X9_notes
set_option maxRecDepth 20000 in
theorem ggX9_steps_X9_step : GoodIn wsX9_steps wsX9_step := goodIn_r _ [24, 10, 25, 26, 27, 28, 4, 29, 30, 31, 32, 33, 17, 18, 19, 20, 34, 35, 36, 37, 38, 39, 40, 41, 42, 43, 44, 45, 46, 47, 48, 49, 50, 51, 52, 53, 54, 55, 56, 57, 58, 59, 60, 61, 62, 63, 64, 65, 66, 67, 68, 69] (by decide +kernel) (by decide +kernel)
set_option maxRecDepth 20000 in
theorem gX9_steps_X9_step : GoodIn wsX9_steps (wsV RX9 157 RX9 yX9_step wsX9_step) := goodIn_app (goodIn_of _ (by decide +kernel)) ggX9_steps_X9_step
theorem dX9_steps_0 : decode cX9_steps 0 = .ok (.iload_n 1, 1) := by decide +kernel
theorem dX9_steps_1 : decode cX9_steps 1 = .ok (.i2l, 1) := by decide +kernel
theorem dX9_steps_2 : decode cX9_steps 2 = .ok (.lconst 1, 1) := by decide +kernel
theorem dX9_steps_3 : decode cX9_steps 3 = .ok (.ldc2_w 151, 3) := by decide +kernel
theorem dX9_steps_6 : decode cX9_steps 6 = .ok (.invokestatic 51, 3) := by decide +kernel
theorem dX9_steps_9 : decode cX9_steps 9 = .ok (.ifCond .ne 5, 3) := by decide +kernel
theorem dX9_steps_12 : decode cX9_steps 12 = .ok (.iconst (-1), 1) := by decide +kernel
theorem dX9_steps_13 : decode cX9_steps 13 = .ok (.ireturn, 1) := by decide +kernel
theorem dX9_steps_14 : decode cX9_steps 14 = .ok (.aload_n 0, 1) := by decide +kernel
theorem dX9_steps_15 : decode cX9_steps 15 = .ok (.invokevirtual 153, 3) := by decide +kernel
theorem dX9_steps_18 : decode cX9_steps 18 = .ok (.ifCond .eq 6, 3) := by decide +kernel
theorem dX9_steps_21 : decode cX9_steps 21 = .ok (.bipush (-2), 2) := by decide +kernel
theorem dX9_steps_23 : decode cX9_steps 23 = .ok (.ireturn, 1) := by decide +kernel
theorem dX9_steps_24 : decode cX9_steps 24 = .ok (.iconst 0, 1) := by decide +kernel
theorem dX9_steps_25 : decode cX9_steps 25 = .ok (.istore_n 2, 1) := by decide +kernel
theorem dX9_steps_26 : decode cX9_steps 26 = .ok (.iload_n 2, 1) := by decide +kernel
theorem dX9_steps_27 : decode cX9_steps 27 = .ok (.iload_n 1, 1) := by decide +kernel
theorem dX9_steps_28 : decode cX9_steps 28 = .ok (.if_icmp .ge 24, 3) := by decide +kernel
theorem dX9_steps_31 : decode cX9_steps 31 = .ok (.aload_n 0, 1) := by decide +kernel
theorem dX9_steps_32 : decode cX9_steps 32 = .ok (.invokevirtual 153, 3) := by decide +kernel
theorem dX9_steps_35 : decode cX9_steps 35 = .ok (.ifCond .ne 17, 3) := by decide +kernel
theorem dX9_steps_38 : decode cX9_steps 38 = .ok (.aload_n 0, 1) := by decide +kernel
theorem dX9_steps_39 : decode cX9_steps 39 = .ok (.invokevirtual 144, 3) := by decide +kernel
theorem dX9_steps_42 : decode cX9_steps 42 = .ok (.aload_n 0, 1) := by decide +kernel
theorem dX9_steps_43 : decode cX9_steps 43 = .ok (.invokevirtual 157, 3) := by decide +kernel
theorem dX9_steps_46 : decode cX9_steps 46 = .ok (.iinc 2 1, 3) := by decide +kernel
theorem dX9_steps_49 : decode cX9_steps 49 = .ok (.goto (-23), 3) := by decide +kernel
theorem dX9_steps_52 : decode cX9_steps 52 = .ok (.iload_n 2, 1) := by decide +kernel
theorem dX9_steps_53 : decode cX9_steps 53 = .ok (.ireturn, 1) := by decide +kernel
set_option maxRecDepth 20000 in
theorem ggX9_melt_X9_in : GoodIn wsX9_melt wsX9_in := goodIn_r _ [6] (by decide +kernel) (by decide +kernel)
set_option maxRecDepth 20000 in
theorem gX9_melt_X9_in : GoodIn wsX9_melt (va_wsS RX9 51 yX9_in wsX9_in) := goodIn_app (goodIn_of _ (by decide +kernel)) ggX9_melt_X9_in
set_option maxRecDepth 20000 in
theorem ggX9_melt_X9_isAtRest : GoodIn wsX9_melt wsX9_isAtRest := goodIn_r _ [10, 2, 29, 30, 31, 32, 33, 34, 35, 36, 37, 38, 39, 40, 41, 42, 43, 44, 45, 46, 47, 48] (by decide +kernel) (by decide +kernel)
set_option maxRecDepth 20000 in
theorem gX9_melt_X9_isAtRest : GoodIn wsX9_melt (wsV RX9 153 RX9 yX9_isAtRest wsX9_isAtRest) := goodIn_app (goodIn_of _ (by decide +kernel)) ggX9_melt_X9_isAtRest
set_option maxRecDepth 20000 in
theorem ggX9_melt_X9_notes : GoodIn wsX9_melt wsX9_notes := goodIn_r _ [14, 15, 16, 2, 17, 18, 19, 5, 20, 29, 30, 31, 32, 33, 34, 35, 36, 37, 38, 39, 40, 41, 42, 43, 44, 45, 46, 47, 48] (by decide +kernel) (by decide +kernel)
set_option maxRecDepth 20000 in
theorem gX9_melt_X9_notes : GoodIn wsX9_melt (wsV RX9 144 RX9 yX9_notes wsX9_notes) := goodIn_app (goodIn_of _ (by decide +kernel)) ggX9_melt_X9_notes
set_option maxRecDepth 20000 in
theorem ggX9_melt_X9_heavy : GoodIn wsX9_melt wsX9_heavy := goodIn_r _ [24, 2, 29, 30, 31, 32, 33, 34, 35, 36, 37, 38, 39, 40, 41, 42, 43, 44, 45, 46, 47, 48] (by decide +kernel) (by decide +kernel)
set_option maxRecDepth 20000 in
theorem gX9_melt_X9_heavy : GoodIn wsX9_melt (wsV RX9 85 RX9 yX9_heavy wsX9_heavy) := goodIn_app (goodIn_of _ (by decide +kernel)) ggX9_melt_X9_heavy
set_option maxRecDepth 20000 in
theorem ggX9_melt_X9_grows : GoodIn wsX9_melt wsX9_grows := goodIn_r _ [28, 2, 29, 30, 31, 32, 33, 34, 35, 36, 37, 38, 39, 40, 41, 42, 43, 44, 45, 46, 47, 48] (by decide +kernel) (by decide +kernel)
set_option maxRecDepth 20000 in
theorem gX9_melt_X9_grows : GoodIn wsX9_melt (wsV RX9 133 RX9 yX9_grows wsX9_grows) := goodIn_app (goodIn_of _ (by decide +kernel)) ggX9_melt_X9_grows
theorem dX9_melt_0 : decode cX9_melt 0 = .ok (.iload_n 1, 1) := by decide +kernel
theorem dX9_melt_1 : decode cX9_melt 1 = .ok (.i2l, 1) := by decide +kernel
theorem dX9_melt_2 : decode cX9_melt 2 = .ok (.lconst 1, 1) := by decide +kernel
theorem dX9_melt_3 : decode cX9_melt 3 = .ok (.ldc2_w 151, 3) := by decide +kernel
theorem dX9_melt_6 : decode cX9_melt 6 = .ok (.invokestatic 51, 3) := by decide +kernel
theorem dX9_melt_9 : decode cX9_melt 9 = .ok (.ifCond .ne 5, 3) := by decide +kernel
theorem dX9_melt_12 : decode cX9_melt 12 = .ok (.iconst (-1), 1) := by decide +kernel
theorem dX9_melt_13 : decode cX9_melt 13 = .ok (.ireturn, 1) := by decide +kernel
theorem dX9_melt_14 : decode cX9_melt 14 = .ok (.aload_n 0, 1) := by decide +kernel
theorem dX9_melt_15 : decode cX9_melt 15 = .ok (.invokevirtual 153, 3) := by decide +kernel
theorem dX9_melt_18 : decode cX9_melt 18 = .ok (.ifCond .ne 6, 3) := by decide +kernel
theorem dX9_melt_21 : decode cX9_melt 21 = .ok (.bipush (-2), 2) := by decide +kernel
theorem dX9_melt_23 : decode cX9_melt 23 = .ok (.ireturn, 1) := by decide +kernel
theorem dX9_melt_24 : decode cX9_melt 24 = .ok (.iconst 0, 1) := by decide +kernel
theorem dX9_melt_25 : decode cX9_melt 25 = .ok (.istore_n 2, 1) := by decide +kernel
theorem dX9_melt_26 : decode cX9_melt 26 = .ok (.iload_n 2, 1) := by decide +kernel
theorem dX9_melt_27 : decode cX9_melt 27 = .ok (.iload_n 1, 1) := by decide +kernel
theorem dX9_melt_28 : decode cX9_melt 28 = .ok (.if_icmp .ge 96, 3) := by decide +kernel
theorem dX9_melt_31 : decode cX9_melt 31 = .ok (.aload_n 0, 1) := by decide +kernel
theorem dX9_melt_32 : decode cX9_melt 32 = .ok (.invokevirtual 144, 3) := by decide +kernel
theorem dX9_melt_35 : decode cX9_melt 35 = .ok (.aload_n 0, 1) := by decide +kernel
theorem dX9_melt_36 : decode cX9_melt 36 = .ok (.getfield 7, 3) := by decide +kernel
theorem dX9_melt_39 : decode cX9_melt 39 = .ok (.bipush 6, 2) := by decide +kernel
theorem dX9_melt_41 : decode cX9_melt 41 = .ok (.iaload, 1) := by decide +kernel
theorem dX9_melt_42 : decode cX9_melt 42 = .ok (.ifCond .le 60, 3) := by decide +kernel
theorem dX9_melt_45 : decode cX9_melt 45 = .ok (.aload_n 0, 1) := by decide +kernel
theorem dX9_melt_46 : decode cX9_melt 46 = .ok (.getfield 7, 3) := by decide +kernel
theorem dX9_melt_49 : decode cX9_melt 49 = .ok (.bipush 6, 2) := by decide +kernel
theorem dX9_melt_51 : decode cX9_melt 51 = .ok (.dup2, 1) := by decide +kernel
theorem dX9_melt_52 : decode cX9_melt 52 = .ok (.iaload, 1) := by decide +kernel
theorem dX9_melt_53 : decode cX9_melt 53 = .ok (.iconst 1, 1) := by decide +kernel
theorem dX9_melt_54 : decode cX9_melt 54 = .ok (.isub, 1) := by decide +kernel
theorem dX9_melt_55 : decode cX9_melt 55 = .ok (.iastore, 1) := by decide +kernel
theorem dX9_melt_56 : decode cX9_melt 56 = .ok (.aload_n 0, 1) := by decide +kernel
theorem dX9_melt_57 : decode cX9_melt 57 = .ok (.getfield 7, 3) := by decide +kernel
theorem dX9_melt_60 : decode cX9_melt 60 = .ok (.bipush 80, 2) := by decide +kernel
theorem dX9_melt_62 : decode cX9_melt 62 = .ok (.aload_n 0, 1) := by decide +kernel
theorem dX9_melt_63 : decode cX9_melt 63 = .ok (.getfield 7, 3) := by decide +kernel
theorem dX9_melt_66 : decode cX9_melt 66 = .ok (.bipush 6, 2) := by decide +kernel
theorem dX9_melt_68 : decode cX9_melt 68 = .ok (.iaload, 1) := by decide +kernel
theorem dX9_melt_69 : decode cX9_melt 69 = .ok (.iadd, 1) := by decide +kernel
theorem dX9_melt_70 : decode cX9_melt 70 = .ok (.iaload, 1) := by decide +kernel
theorem dX9_melt_71 : decode cX9_melt 71 = .ok (.istore_n 3, 1) := by decide +kernel
theorem dX9_melt_72 : decode cX9_melt 72 = .ok (.aload_n 0, 1) := by decide +kernel
theorem dX9_melt_73 : decode cX9_melt 73 = .ok (.getfield 7, 3) := by decide +kernel
theorem dX9_melt_76 : decode cX9_melt 76 = .ok (.bipush 56, 2) := by decide +kernel
theorem dX9_melt_78 : decode cX9_melt 78 = .ok (.iconst 3, 1) := by decide +kernel
theorem dX9_melt_79 : decode cX9_melt 79 = .ok (.iload_n 3, 1) := by decide +kernel
theorem dX9_melt_80 : decode cX9_melt 80 = .ok (.imul, 1) := by decide +kernel
theorem dX9_melt_81 : decode cX9_melt 81 = .ok (.iadd, 1) := by decide +kernel
theorem dX9_melt_82 : decode cX9_melt 82 = .ok (.iconst 2, 1) := by decide +kernel
theorem dX9_melt_83 : decode cX9_melt 83 = .ok (.iadd, 1) := by decide +kernel
theorem dX9_melt_84 : decode cX9_melt 84 = .ok (.bipush (-2), 2) := by decide +kernel
theorem dX9_melt_86 : decode cX9_melt 86 = .ok (.iastore, 1) := by decide +kernel
theorem dX9_melt_87 : decode cX9_melt 87 = .ok (.aload_n 0, 1) := by decide +kernel
theorem dX9_melt_88 : decode cX9_melt 88 = .ok (.aload_n 0, 1) := by decide +kernel
theorem dX9_melt_89 : decode cX9_melt 89 = .ok (.iload_n 3, 1) := by decide +kernel
theorem dX9_melt_90 : decode cX9_melt 90 = .ok (.invokevirtual 85, 3) := by decide +kernel
theorem dX9_melt_93 : decode cX9_melt 93 = .ok (.ineg, 1) := by decide +kernel
theorem dX9_melt_94 : decode cX9_melt 94 = .ok (.iconst 1, 1) := by decide +kernel
theorem dX9_melt_95 : decode cX9_melt 95 = .ok (.isub, 1) := by decide +kernel
theorem dX9_melt_96 : decode cX9_melt 96 = .ok (.invokevirtual 133, 3) := by decide +kernel
theorem dX9_melt_99 : decode cX9_melt 99 = .ok (.goto 19, 3) := by decide +kernel
theorem dX9_melt_102 : decode cX9_melt 102 = .ok (.aload_n 0, 1) := by decide +kernel
theorem dX9_melt_103 : decode cX9_melt 103 = .ok (.aload_n 0, 1) := by decide +kernel
theorem dX9_melt_104 : decode cX9_melt 104 = .ok (.getfield 7, 3) := by decide +kernel
theorem dX9_melt_107 : decode cX9_melt 107 = .ok (.iconst 3, 1) := by decide +kernel
theorem dX9_melt_108 : decode cX9_melt 108 = .ok (.iaload, 1) := by decide +kernel
theorem dX9_melt_109 : decode cX9_melt 109 = .ok (.bipush 10, 2) := by decide +kernel
theorem dX9_melt_111 : decode cX9_melt 111 = .ok (.idiv, 1) := by decide +kernel
theorem dX9_melt_112 : decode cX9_melt 112 = .ok (.ineg, 1) := by decide +kernel
theorem dX9_melt_113 : decode cX9_melt 113 = .ok (.iconst 1, 1) := by decide +kernel
theorem dX9_melt_114 : decode cX9_melt 114 = .ok (.isub, 1) := by decide +kernel
theorem dX9_melt_115 : decode cX9_melt 115 = .ok (.invokevirtual 133, 3) := by decide +kernel
theorem dX9_melt_118 : decode cX9_melt 118 = .ok (.iinc 2 1, 3) := by decide +kernel
theorem dX9_melt_121 : decode cX9_melt 121 = .ok (.goto (-95), 3) := by decide +kernel
theorem dX9_melt_124 : decode cX9_melt 124 = .ok (.aload_n 0, 1) := by decide +kernel
theorem dX9_melt_125 : decode cX9_melt 125 = .ok (.getfield 7, 3) := by decide +kernel
theorem dX9_melt_128 : decode cX9_melt 128 = .ok (.iconst 3, 1) := by decide +kernel
theorem dX9_melt_129 : decode cX9_melt 129 = .ok (.iaload, 1) := by decide +kernel
theorem dX9_melt_130 : decode cX9_melt 130 = .ok (.ireturn, 1) := by decide +kernel
theorem dX9_falls_0 : decode cX9_falls 0 = .ok (.aload_n 0, 1) := by decide +kernel
theorem dX9_falls_1 : decode cX9_falls 1 = .ok (.getfield 7, 3) := by decide +kernel
theorem dX9_falls_4 : decode cX9_falls 4 = .ok (.bipush 32, 2) := by decide +kernel
theorem dX9_falls_6 : decode cX9_falls 6 = .ok (.iload_n 1, 1) := by decide +kernel
theorem dX9_falls_7 : decode cX9_falls 7 = .ok (.iadd, 1) := by decide +kernel
theorem dX9_falls_8 : decode cX9_falls 8 = .ok (.iaload, 1) := by decide +kernel
theorem dX9_falls_9 : decode cX9_falls 9 = .ok (.iload_n 2, 1) := by decide +kernel
theorem dX9_falls_10 : decode cX9_falls 10 = .ok (.iadd, 1) := by decide +kernel
theorem dX9_falls_11 : decode cX9_falls 11 = .ok (.istore_n 3, 1) := by decide +kernel
theorem dX9_falls_12 : decode cX9_falls 12 = .ok (.aload_n 0, 1) := by decide +kernel
theorem dX9_falls_13 : decode cX9_falls 13 = .ok (.getfield 7, 3) := by decide +kernel
theorem dX9_falls_16 : decode cX9_falls 16 = .ok (.bipush 32, 2) := by decide +kernel
theorem dX9_falls_18 : decode cX9_falls 18 = .ok (.iload_n 1, 1) := by decide +kernel
theorem dX9_falls_19 : decode cX9_falls 19 = .ok (.iadd, 1) := by decide +kernel
theorem dX9_falls_20 : decode cX9_falls 20 = .ok (.iload_n 3, 1) := by decide +kernel
theorem dX9_falls_21 : decode cX9_falls 21 = .ok (.bipush 9, 2) := by decide +kernel
theorem dX9_falls_23 : decode cX9_falls 23 = .ok (.if_icmp .le 8, 3) := by decide +kernel
theorem dX9_falls_26 : decode cX9_falls 26 = .ok (.bipush 9, 2) := by decide +kernel
theorem dX9_falls_28 : decode cX9_falls 28 = .ok (.goto 4, 3) := by decide +kernel
theorem dX9_falls_31 : decode cX9_falls 31 = .ok (.iload_n 3, 1) := by decide +kernel
theorem dX9_falls_32 : decode cX9_falls 32 = .ok (.iastore, 1) := by decide +kernel
theorem dX9_falls_33 : decode cX9_falls 33 = .ok (.return_, 1) := by decide +kernel
set_option maxRecDepth 20000 in
theorem ggX9_snow_X9_in : GoodIn wsX9_snow wsX9_in := goodIn_r _ [6] (by decide +kernel) (by decide +kernel)
set_option maxRecDepth 20000 in
theorem gX9_snow_X9_in : GoodIn wsX9_snow (va_wsS RX9 51 yX9_in wsX9_in) := goodIn_app (goodIn_of _ (by decide +kernel)) ggX9_snow_X9_in
set_option maxRecDepth 20000 in
theorem ggX9_snow_X9_notes : GoodIn wsX9_snow wsX9_notes := goodIn_r _ [10, 11, 12, 2, 13, 14, 15, 5, 16, 25, 26, 27, 28, 29, 30, 31, 32, 33, 34, 35, 36, 37, 38, 39, 40, 41, 42, 43, 44] (by decide +kernel) (by decide +kernel)
set_option maxRecDepth 20000 in
theorem gX9_snow_X9_notes : GoodIn wsX9_snow (wsV RX9 144 RX9 yX9_notes wsX9_notes) := goodIn_app (goodIn_of _ (by decide +kernel)) ggX9_snow_X9_notes
set_option maxRecDepth 20000 in
theorem ggX9_snow_X9_falls : GoodIn wsX9_snow wsX9_falls := goodIn_r _ [20, 2, 25, 26, 27, 28, 29, 30, 31, 32, 33, 34, 35, 36, 37, 38, 39, 40, 41, 42, 43, 44] (by decide +kernel) (by decide +kernel)
set_option maxRecDepth 20000 in
theorem gX9_snow_X9_falls : GoodIn wsX9_snow (wsV RX9 160 RX9 yX9_falls wsX9_falls) := goodIn_app (goodIn_of _ (by decide +kernel)) ggX9_snow_X9_falls
set_option maxRecDepth 20000 in
theorem ggX9_snow_X9_snowOfAll : GoodIn wsX9_snow wsX9_snowOfAll := goodIn_r _ [24, 2, 25, 26, 27, 28, 29, 30, 31, 32, 33, 34, 35, 36, 37, 38, 39, 40, 41, 42, 43, 44] (by decide +kernel) (by decide +kernel)
set_option maxRecDepth 20000 in
theorem gX9_snow_X9_snowOfAll : GoodIn wsX9_snow (wsV RX9 88 RX9 yX9_snowOfAll wsX9_snowOfAll) := goodIn_app (goodIn_of _ (by decide +kernel)) ggX9_snow_X9_snowOfAll
theorem dX9_snow_0 : decode cX9_snow 0 = .ok (.iload_n 1, 1) := by decide +kernel
theorem dX9_snow_1 : decode cX9_snow 1 = .ok (.i2l, 1) := by decide +kernel
theorem dX9_snow_2 : decode cX9_snow 2 = .ok (.lconst 1, 1) := by decide +kernel
theorem dX9_snow_3 : decode cX9_snow 3 = .ok (.ldc2_w 63, 3) := by decide +kernel
theorem dX9_snow_6 : decode cX9_snow 6 = .ok (.invokestatic 51, 3) := by decide +kernel
theorem dX9_snow_9 : decode cX9_snow 9 = .ok (.ifCond .ne 5, 3) := by decide +kernel
theorem dX9_snow_12 : decode cX9_snow 12 = .ok (.iconst (-1), 1) := by decide +kernel
theorem dX9_snow_13 : decode cX9_snow 13 = .ok (.ireturn, 1) := by decide +kernel
theorem dX9_snow_14 : decode cX9_snow 14 = .ok (.aload_n 0, 1) := by decide +kernel
theorem dX9_snow_15 : decode cX9_snow 15 = .ok (.invokevirtual 144, 3) := by decide +kernel
theorem dX9_snow_18 : decode cX9_snow 18 = .ok (.iconst 0, 1) := by decide +kernel
theorem dX9_snow_19 : decode cX9_snow 19 = .ok (.istore_n 2, 1) := by decide +kernel
theorem dX9_snow_20 : decode cX9_snow 20 = .ok (.iload_n 2, 1) := by decide +kernel
theorem dX9_snow_21 : decode cX9_snow 21 = .ok (.aload_n 0, 1) := by decide +kernel
theorem dX9_snow_22 : decode cX9_snow 22 = .ok (.getfield 7, 3) := by decide +kernel
theorem dX9_snow_25 : decode cX9_snow 25 = .ok (.iconst 0, 1) := by decide +kernel
theorem dX9_snow_26 : decode cX9_snow 26 = .ok (.iaload, 1) := by decide +kernel
theorem dX9_snow_27 : decode cX9_snow 27 = .ok (.if_icmp .ge 15, 3) := by decide +kernel
theorem dX9_snow_30 : decode cX9_snow 30 = .ok (.aload_n 0, 1) := by decide +kernel
theorem dX9_snow_31 : decode cX9_snow 31 = .ok (.iload_n 2, 1) := by decide +kernel
theorem dX9_snow_32 : decode cX9_snow 32 = .ok (.iload_n 1, 1) := by decide +kernel
theorem dX9_snow_33 : decode cX9_snow 33 = .ok (.invokevirtual 160, 3) := by decide +kernel
theorem dX9_snow_36 : decode cX9_snow 36 = .ok (.iinc 2 1, 3) := by decide +kernel
theorem dX9_snow_39 : decode cX9_snow 39 = .ok (.goto (-19), 3) := by decide +kernel
theorem dX9_snow_42 : decode cX9_snow 42 = .ok (.aload_n 0, 1) := by decide +kernel
theorem dX9_snow_43 : decode cX9_snow 43 = .ok (.invokevirtual 88, 3) := by decide +kernel
theorem dX9_snow_46 : decode cX9_snow 46 = .ok (.ireturn, 1) := by decide +kernel
set_option maxRecDepth 20000 in
theorem ggX9_drift_X9_in : GoodIn wsX9_drift wsX9_in := goodIn_r _ [10] (by decide +kernel) (by decide +kernel)
set_option maxRecDepth 20000 in
theorem gX9_drift_X9_in : GoodIn wsX9_drift (va_wsS RX9 51 yX9_in wsX9_in) := goodIn_app (goodIn_of _ (by decide +kernel)) ggX9_drift_X9_in
set_option maxRecDepth 20000 in
theorem ggX9_drift_X9_notes : GoodIn wsX9_drift wsX9_notes := goodIn_r _ [14, 15, 16, 2, 17, 18, 19, 9, 20, 29, 30, 31, 32, 33, 34, 35, 36, 37, 38, 39, 40, 41, 42, 43, 44, 45, 46, 47, 48] (by decide +kernel) (by decide +kernel)
set_option maxRecDepth 20000 in
theorem gX9_drift_X9_notes : GoodIn wsX9_drift (wsV RX9 144 RX9 yX9_notes wsX9_notes) := goodIn_app (goodIn_of _ (by decide +kernel)) ggX9_drift_X9_notes
set_option maxRecDepth 20000 in
theorem ggX9_drift_X9_falls : GoodIn wsX9_drift wsX9_falls := goodIn_r _ [24, 2, 29, 30, 31, 32, 33, 34, 35, 36, 37, 38, 39, 40, 41, 42, 43, 44, 45, 46, 47, 48] (by decide +kernel) (by decide +kernel)
set_option maxRecDepth 20000 in
theorem gX9_drift_X9_falls : GoodIn wsX9_drift (wsV RX9 160 RX9 yX9_falls wsX9_falls) := goodIn_app (goodIn_of _ (by decide +kernel)) ggX9_drift_X9_falls
set_option maxRecDepth 20000 in
theorem ggX9_drift_X9_snowOfAll : GoodIn wsX9_drift wsX9_snowOfAll := goodIn_r _ [28, 2, 29, 30, 31, 32, 33, 34, 35, 36, 37, 38, 39, 40, 41, 42, 43, 44, 45, 46, 47, 48] (by decide +kernel) (by decide +kernel)
set_option maxRecDepth 20000 in
theorem gX9_drift_X9_snowOfAll : GoodIn wsX9_drift (wsV RX9 88 RX9 yX9_snowOfAll wsX9_snowOfAll) := goodIn_app (goodIn_of _ (by decide +kernel)) ggX9_drift_X9_snowOfAll
theorem dX9_drift_0 : decode cX9_drift 0 = .ok (.iload_n 1, 1) := by decide +kernel
theorem dX9_drift_1 : decode cX9_drift 1 = .ok (.i2l, 1) := by decide +kernel
theorem dX9_drift_2 : decode cX9_drift 2 = .ok (.lconst 1, 1) := by decide +kernel
theorem dX9_drift_3 : decode cX9_drift 3 = .ok (.ldc2_w 164, 3) := by decide +kernel
theorem dX9_drift_6 : decode cX9_drift 6 = .ok (.invokestatic 51, 3) := by decide +kernel
theorem dX9_drift_9 : decode cX9_drift 9 = .ok (.ifCond .ne 5, 3) := by decide +kernel
theorem dX9_drift_12 : decode cX9_drift 12 = .ok (.iconst (-1), 1) := by decide +kernel
theorem dX9_drift_13 : decode cX9_drift 13 = .ok (.ireturn, 1) := by decide +kernel
theorem dX9_drift_14 : decode cX9_drift 14 = .ok (.aload_n 0, 1) := by decide +kernel
theorem dX9_drift_15 : decode cX9_drift 15 = .ok (.invokevirtual 144, 3) := by decide +kernel
theorem dX9_drift_18 : decode cX9_drift 18 = .ok (.iconst 0, 1) := by decide +kernel
theorem dX9_drift_19 : decode cX9_drift 19 = .ok (.istore_n 2, 1) := by decide +kernel
theorem dX9_drift_20 : decode cX9_drift 20 = .ok (.iload_n 2, 1) := by decide +kernel
theorem dX9_drift_21 : decode cX9_drift 21 = .ok (.iload_n 1, 1) := by decide +kernel
theorem dX9_drift_22 : decode cX9_drift 22 = .ok (.if_icmp .ge 59, 3) := by decide +kernel
theorem dX9_drift_25 : decode cX9_drift 25 = .ok (.aload_n 0, 1) := by decide +kernel
theorem dX9_drift_26 : decode cX9_drift 26 = .ok (.getfield 7, 3) := by decide +kernel
theorem dX9_drift_29 : decode cX9_drift 29 = .ok (.bipush 7, 2) := by decide +kernel
theorem dX9_drift_31 : decode cX9_drift 31 = .ok (.aload_n 0, 1) := by decide +kernel
theorem dX9_drift_32 : decode cX9_drift 32 = .ok (.getfield 7, 3) := by decide +kernel
theorem dX9_drift_35 : decode cX9_drift 35 = .ok (.bipush 7, 2) := by decide +kernel
theorem dX9_drift_37 : decode cX9_drift 37 = .ok (.iaload, 1) := by decide +kernel
theorem dX9_drift_38 : decode cX9_drift 38 = .ok (.i2l, 1) := by decide +kernel
theorem dX9_drift_39 : decode cX9_drift 39 = .ok (.ldc2_w 166, 3) := by decide +kernel
theorem dX9_drift_42 : decode cX9_drift 42 = .ok (.lmul, 1) := by decide +kernel
theorem dX9_drift_43 : decode cX9_drift 43 = .ok (.ldc2_w 168, 3) := by decide +kernel
theorem dX9_drift_46 : decode cX9_drift 46 = .ok (.ladd, 1) := by decide +kernel
theorem dX9_drift_47 : decode cX9_drift 47 = .ok (.ldc2_w 170, 3) := by decide +kernel
theorem dX9_drift_50 : decode cX9_drift 50 = .ok (.land, 1) := by decide +kernel
theorem dX9_drift_51 : decode cX9_drift 51 = .ok (.l2i, 1) := by decide +kernel
theorem dX9_drift_52 : decode cX9_drift 52 = .ok (.iastore, 1) := by decide +kernel
theorem dX9_drift_53 : decode cX9_drift 53 = .ok (.aload_n 0, 1) := by decide +kernel
theorem dX9_drift_54 : decode cX9_drift 54 = .ok (.aload_n 0, 1) := by decide +kernel
theorem dX9_drift_55 : decode cX9_drift 55 = .ok (.getfield 7, 3) := by decide +kernel
theorem dX9_drift_58 : decode cX9_drift 58 = .ok (.bipush 7, 2) := by decide +kernel
theorem dX9_drift_60 : decode cX9_drift 60 = .ok (.iaload, 1) := by decide +kernel
theorem dX9_drift_61 : decode cX9_drift 61 = .ok (.ldc 172, 2) := by decide +kernel
theorem dX9_drift_63 : decode cX9_drift 63 = .ok (.idiv, 1) := by decide +kernel
theorem dX9_drift_64 : decode cX9_drift 64 = .ok (.aload_n 0, 1) := by decide +kernel
theorem dX9_drift_65 : decode cX9_drift 65 = .ok (.getfield 7, 3) := by decide +kernel
theorem dX9_drift_68 : decode cX9_drift 68 = .ok (.iconst 0, 1) := by decide +kernel
theorem dX9_drift_69 : decode cX9_drift 69 = .ok (.iaload, 1) := by decide +kernel
theorem dX9_drift_70 : decode cX9_drift 70 = .ok (.irem, 1) := by decide +kernel
theorem dX9_drift_71 : decode cX9_drift 71 = .ok (.iconst 1, 1) := by decide +kernel
theorem dX9_drift_72 : decode cX9_drift 72 = .ok (.invokevirtual 160, 3) := by decide +kernel
theorem dX9_drift_75 : decode cX9_drift 75 = .ok (.iinc 2 1, 3) := by decide +kernel
theorem dX9_drift_78 : decode cX9_drift 78 = .ok (.goto (-58), 3) := by decide +kernel
theorem dX9_drift_81 : decode cX9_drift 81 = .ok (.aload_n 0, 1) := by decide +kernel
theorem dX9_drift_82 : decode cX9_drift 82 = .ok (.invokevirtual 88, 3) := by decide +kernel
theorem dX9_drift_85 : decode cX9_drift 85 = .ok (.ireturn, 1) := by decide +kernel
theorem dX9_undo_0 : decode cX9_undo 0 = .ok (.aload_n 0, 1) := by decide +kernel
theorem dX9_undo_1 : decode cX9_undo 1 = .ok (.getfield 70, 3) := by decide +kernel
theorem dX9_undo_4 : decode cX9_undo 4 = .ok (.ifCond .ne 6, 3) := by decide +kernel
theorem dX9_undo_7 : decode cX9_undo 7 = .ok (.bipush (-4), 2) := by decide +kernel
theorem dX9_undo_9 : decode cX9_undo 9 = .ok (.ireturn, 1) := by decide +kernel
theorem dX9_undo_10 : decode cX9_undo 10 = .ok (.aload_n 0, 1) := by decide +kernel
theorem dX9_undo_11 : decode cX9_undo 11 = .ok (.dup, 1) := by decide +kernel
theorem dX9_undo_12 : decode cX9_undo 12 = .ok (.getfield 70, 3) := by decide +kernel
theorem dX9_undo_15 : decode cX9_undo 15 = .ok (.iconst 1, 1) := by decide +kernel
theorem dX9_undo_16 : decode cX9_undo 16 = .ok (.isub, 1) := by decide +kernel
theorem dX9_undo_17 : decode cX9_undo 17 = .ok (.putfield 70, 3) := by decide +kernel
theorem dX9_undo_20 : decode cX9_undo 20 = .ok (.bipush 46, 2) := by decide +kernel
theorem dX9_undo_22 : decode cX9_undo 22 = .ok (.aload_n 0, 1) := by decide +kernel
theorem dX9_undo_23 : decode cX9_undo 23 = .ok (.getfield 70, 3) := by decide +kernel
theorem dX9_undo_26 : decode cX9_undo 26 = .ok (.imul, 1) := by decide +kernel
theorem dX9_undo_27 : decode cX9_undo 27 = .ok (.istore_n 1, 1) := by decide +kernel
theorem dX9_undo_28 : decode cX9_undo 28 = .ok (.iconst 0, 1) := by decide +kernel
theorem dX9_undo_29 : decode cX9_undo 29 = .ok (.istore_n 2, 1) := by decide +kernel
theorem dX9_undo_30 : decode cX9_undo 30 = .ok (.iload_n 2, 1) := by decide +kernel
theorem dX9_undo_31 : decode cX9_undo 31 = .ok (.bipush 6, 2) := by decide +kernel
theorem dX9_undo_33 : decode cX9_undo 33 = .ok (.if_icmp .ge 25, 3) := by decide +kernel
theorem dX9_undo_36 : decode cX9_undo 36 = .ok (.aload_n 0, 1) := by decide +kernel
theorem dX9_undo_37 : decode cX9_undo 37 = .ok (.getfield 7, 3) := by decide +kernel
theorem dX9_undo_40 : decode cX9_undo 40 = .ok (.iconst 2, 1) := by decide +kernel
theorem dX9_undo_41 : decode cX9_undo 41 = .ok (.iload_n 2, 1) := by decide +kernel
theorem dX9_undo_42 : decode cX9_undo 42 = .ok (.iadd, 1) := by decide +kernel
theorem dX9_undo_43 : decode cX9_undo 43 = .ok (.aload_n 0, 1) := by decide +kernel
theorem dX9_undo_44 : decode cX9_undo 44 = .ok (.getfield 26, 3) := by decide +kernel
theorem dX9_undo_47 : decode cX9_undo 47 = .ok (.iload_n 1, 1) := by decide +kernel
theorem dX9_undo_48 : decode cX9_undo 48 = .ok (.iload_n 2, 1) := by decide +kernel
theorem dX9_undo_49 : decode cX9_undo 49 = .ok (.iadd, 1) := by decide +kernel
theorem dX9_undo_50 : decode cX9_undo 50 = .ok (.iaload, 1) := by decide +kernel
theorem dX9_undo_51 : decode cX9_undo 51 = .ok (.iastore, 1) := by decide +kernel
theorem dX9_undo_52 : decode cX9_undo 52 = .ok (.iinc 2 1, 3) := by decide +kernel
theorem dX9_undo_55 : decode cX9_undo 55 = .ok (.goto (-25), 3) := by decide +kernel
theorem dX9_undo_58 : decode cX9_undo 58 = .ok (.iconst 0, 1) := by decide +kernel
theorem dX9_undo_59 : decode cX9_undo 59 = .ok (.istore_n 2, 1) := by decide +kernel
theorem dX9_undo_60 : decode cX9_undo 60 = .ok (.iload_n 2, 1) := by decide +kernel
theorem dX9_undo_61 : decode cX9_undo 61 = .ok (.bipush 24, 2) := by decide +kernel
theorem dX9_undo_63 : decode cX9_undo 63 = .ok (.if_icmp .ge 29, 3) := by decide +kernel
theorem dX9_undo_66 : decode cX9_undo 66 = .ok (.aload_n 0, 1) := by decide +kernel
theorem dX9_undo_67 : decode cX9_undo 67 = .ok (.getfield 7, 3) := by decide +kernel
theorem dX9_undo_70 : decode cX9_undo 70 = .ok (.bipush 32, 2) := by decide +kernel
theorem dX9_undo_72 : decode cX9_undo 72 = .ok (.iload_n 2, 1) := by decide +kernel
theorem dX9_undo_73 : decode cX9_undo 73 = .ok (.iadd, 1) := by decide +kernel
theorem dX9_undo_74 : decode cX9_undo 74 = .ok (.aload_n 0, 1) := by decide +kernel
theorem dX9_undo_75 : decode cX9_undo 75 = .ok (.getfield 26, 3) := by decide +kernel
theorem dX9_undo_78 : decode cX9_undo 78 = .ok (.iload_n 1, 1) := by decide +kernel
theorem dX9_undo_79 : decode cX9_undo 79 = .ok (.bipush 6, 2) := by decide +kernel
theorem dX9_undo_81 : decode cX9_undo 81 = .ok (.iadd, 1) := by decide +kernel
theorem dX9_undo_82 : decode cX9_undo 82 = .ok (.iload_n 2, 1) := by decide +kernel
theorem dX9_undo_83 : decode cX9_undo 83 = .ok (.iadd, 1) := by decide +kernel
theorem dX9_undo_84 : decode cX9_undo 84 = .ok (.iaload, 1) := by decide +kernel
theorem dX9_undo_85 : decode cX9_undo 85 = .ok (.iastore, 1) := by decide +kernel
theorem dX9_undo_86 : decode cX9_undo 86 = .ok (.iinc 2 1, 3) := by decide +kernel
theorem dX9_undo_89 : decode cX9_undo 89 = .ok (.goto (-29), 3) := by decide +kernel
theorem dX9_undo_92 : decode cX9_undo 92 = .ok (.iconst 0, 1) := by decide +kernel
theorem dX9_undo_93 : decode cX9_undo 93 = .ok (.istore_n 2, 1) := by decide +kernel
theorem dX9_undo_94 : decode cX9_undo 94 = .ok (.iload_n 2, 1) := by decide +kernel
theorem dX9_undo_95 : decode cX9_undo 95 = .ok (.bipush 8, 2) := by decide +kernel
theorem dX9_undo_97 : decode cX9_undo 97 = .ok (.if_icmp .ge 53, 3) := by decide +kernel
theorem dX9_undo_100 : decode cX9_undo 100 = .ok (.aload_n 0, 1) := by decide +kernel
theorem dX9_undo_101 : decode cX9_undo 101 = .ok (.getfield 7, 3) := by decide +kernel
theorem dX9_undo_104 : decode cX9_undo 104 = .ok (.bipush 56, 2) := by decide +kernel
theorem dX9_undo_106 : decode cX9_undo 106 = .ok (.iconst 3, 1) := by decide +kernel
theorem dX9_undo_107 : decode cX9_undo 107 = .ok (.iload_n 2, 1) := by decide +kernel
theorem dX9_undo_108 : decode cX9_undo 108 = .ok (.imul, 1) := by decide +kernel
theorem dX9_undo_109 : decode cX9_undo 109 = .ok (.iadd, 1) := by decide +kernel
theorem dX9_undo_110 : decode cX9_undo 110 = .ok (.iconst 2, 1) := by decide +kernel
theorem dX9_undo_111 : decode cX9_undo 111 = .ok (.iadd, 1) := by decide +kernel
theorem dX9_undo_112 : decode cX9_undo 112 = .ok (.aload_n 0, 1) := by decide +kernel
theorem dX9_undo_113 : decode cX9_undo 113 = .ok (.getfield 26, 3) := by decide +kernel
theorem dX9_undo_116 : decode cX9_undo 116 = .ok (.iload_n 1, 1) := by decide +kernel
theorem dX9_undo_117 : decode cX9_undo 117 = .ok (.bipush 30, 2) := by decide +kernel
theorem dX9_undo_119 : decode cX9_undo 119 = .ok (.iadd, 1) := by decide +kernel
theorem dX9_undo_120 : decode cX9_undo 120 = .ok (.iload_n 2, 1) := by decide +kernel
theorem dX9_undo_121 : decode cX9_undo 121 = .ok (.iadd, 1) := by decide +kernel
theorem dX9_undo_122 : decode cX9_undo 122 = .ok (.iaload, 1) := by decide +kernel
theorem dX9_undo_123 : decode cX9_undo 123 = .ok (.iastore, 1) := by decide +kernel
theorem dX9_undo_124 : decode cX9_undo 124 = .ok (.aload_n 0, 1) := by decide +kernel
theorem dX9_undo_125 : decode cX9_undo 125 = .ok (.getfield 7, 3) := by decide +kernel
theorem dX9_undo_128 : decode cX9_undo 128 = .ok (.bipush 80, 2) := by decide +kernel
theorem dX9_undo_130 : decode cX9_undo 130 = .ok (.iload_n 2, 1) := by decide +kernel
theorem dX9_undo_131 : decode cX9_undo 131 = .ok (.iadd, 1) := by decide +kernel
theorem dX9_undo_132 : decode cX9_undo 132 = .ok (.aload_n 0, 1) := by decide +kernel
theorem dX9_undo_133 : decode cX9_undo 133 = .ok (.getfield 26, 3) := by decide +kernel
theorem dX9_undo_136 : decode cX9_undo 136 = .ok (.iload_n 1, 1) := by decide +kernel
theorem dX9_undo_137 : decode cX9_undo 137 = .ok (.bipush 38, 2) := by decide +kernel
theorem dX9_undo_139 : decode cX9_undo 139 = .ok (.iadd, 1) := by decide +kernel
theorem dX9_undo_140 : decode cX9_undo 140 = .ok (.iload_n 2, 1) := by decide +kernel
theorem dX9_undo_141 : decode cX9_undo 141 = .ok (.iadd, 1) := by decide +kernel
theorem dX9_undo_142 : decode cX9_undo 142 = .ok (.iaload, 1) := by decide +kernel
theorem dX9_undo_143 : decode cX9_undo 143 = .ok (.iastore, 1) := by decide +kernel
theorem dX9_undo_144 : decode cX9_undo 144 = .ok (.iinc 2 1, 3) := by decide +kernel
theorem dX9_undo_147 : decode cX9_undo 147 = .ok (.goto (-53), 3) := by decide +kernel
theorem dX9_undo_150 : decode cX9_undo 150 = .ok (.aload_n 0, 1) := by decide +kernel
theorem dX9_undo_151 : decode cX9_undo 151 = .ok (.getfield 70, 3) := by decide +kernel
theorem dX9_undo_154 : decode cX9_undo 154 = .ok (.ireturn, 1) := by decide +kernel
theorem dX9_seed_0 : decode cX9_seed 0 = .ok (.iload_n 1, 1) := by decide +kernel
theorem dX9_seed_1 : decode cX9_seed 1 = .ok (.ifCond .ge 5, 3) := by decide +kernel
theorem dX9_seed_4 : decode cX9_seed 4 = .ok (.iconst (-1), 1) := by decide +kernel
theorem dX9_seed_5 : decode cX9_seed 5 = .ok (.ireturn, 1) := by decide +kernel
theorem dX9_seed_6 : decode cX9_seed 6 = .ok (.aload_n 0, 1) := by decide +kernel
theorem dX9_seed_7 : decode cX9_seed 7 = .ok (.getfield 7, 3) := by decide +kernel
theorem dX9_seed_10 : decode cX9_seed 10 = .ok (.bipush 7, 2) := by decide +kernel
theorem dX9_seed_12 : decode cX9_seed 12 = .ok (.iaload, 1) := by decide +kernel
theorem dX9_seed_13 : decode cX9_seed 13 = .ok (.istore_n 2, 1) := by decide +kernel
theorem dX9_seed_14 : decode cX9_seed 14 = .ok (.aload_n 0, 1) := by decide +kernel
theorem dX9_seed_15 : decode cX9_seed 15 = .ok (.getfield 7, 3) := by decide +kernel
theorem dX9_seed_18 : decode cX9_seed 18 = .ok (.bipush 7, 2) := by decide +kernel
theorem dX9_seed_20 : decode cX9_seed 20 = .ok (.iload_n 1, 1) := by decide +kernel
theorem dX9_seed_21 : decode cX9_seed 21 = .ok (.iastore, 1) := by decide +kernel
theorem dX9_seed_22 : decode cX9_seed 22 = .ok (.iload_n 2, 1) := by decide +kernel
theorem dX9_seed_23 : decode cX9_seed 23 = .ok (.ireturn, 1) := by decide +kernel
theorem dX9_asides_0 : decode cX9_asides 0 = .ok (.iconst 0, 1) := by decide +kernel
theorem dX9_asides_1 : decode cX9_asides 1 = .ok (.istore_n 1, 1) := by decide +kernel
theorem dX9_asides_2 : decode cX9_asides 2 = .ok (.iload_n 1, 1) := by decide +kernel
theorem dX9_asides_3 : decode cX9_asides 3 = .ok (.bipush 88, 2) := by decide +kernel
theorem dX9_asides_5 : decode cX9_asides 5 = .ok (.if_icmp .ge 21, 3) := by decide +kernel
theorem dX9_asides_8 : decode cX9_asides 8 = .ok (.aload_n 0, 1) := by decide +kernel
theorem dX9_asides_9 : decode cX9_asides 9 = .ok (.getfield 29, 3) := by decide +kernel
theorem dX9_asides_12 : decode cX9_asides 12 = .ok (.iload_n 1, 1) := by decide +kernel
theorem dX9_asides_13 : decode cX9_asides 13 = .ok (.aload_n 0, 1) := by decide +kernel
theorem dX9_asides_14 : decode cX9_asides 14 = .ok (.getfield 7, 3) := by decide +kernel
theorem dX9_asides_17 : decode cX9_asides 17 = .ok (.iload_n 1, 1) := by decide +kernel
theorem dX9_asides_18 : decode cX9_asides 18 = .ok (.iaload, 1) := by decide +kernel
theorem dX9_asides_19 : decode cX9_asides 19 = .ok (.iastore, 1) := by decide +kernel
theorem dX9_asides_20 : decode cX9_asides 20 = .ok (.iinc 1 1, 3) := by decide +kernel
theorem dX9_asides_23 : decode cX9_asides 23 = .ok (.goto (-21), 3) := by decide +kernel
theorem dX9_asides_26 : decode cX9_asides 26 = .ok (.return_, 1) := by decide +kernel
theorem dX9_backs_0 : decode cX9_backs 0 = .ok (.iconst 0, 1) := by decide +kernel
theorem dX9_backs_1 : decode cX9_backs 1 = .ok (.istore_n 1, 1) := by decide +kernel
theorem dX9_backs_2 : decode cX9_backs 2 = .ok (.iload_n 1, 1) := by decide +kernel
theorem dX9_backs_3 : decode cX9_backs 3 = .ok (.bipush 88, 2) := by decide +kernel
theorem dX9_backs_5 : decode cX9_backs 5 = .ok (.if_icmp .ge 21, 3) := by decide +kernel
theorem dX9_backs_8 : decode cX9_backs 8 = .ok (.aload_n 0, 1) := by decide +kernel
theorem dX9_backs_9 : decode cX9_backs 9 = .ok (.getfield 7, 3) := by decide +kernel
theorem dX9_backs_12 : decode cX9_backs 12 = .ok (.iload_n 1, 1) := by decide +kernel
theorem dX9_backs_13 : decode cX9_backs 13 = .ok (.aload_n 0, 1) := by decide +kernel
theorem dX9_backs_14 : decode cX9_backs 14 = .ok (.getfield 29, 3) := by decide +kernel
theorem dX9_backs_17 : decode cX9_backs 17 = .ok (.iload_n 1, 1) := by decide +kernel
theorem dX9_backs_18 : decode cX9_backs 18 = .ok (.iaload, 1) := by decide +kernel
theorem dX9_backs_19 : decode cX9_backs 19 = .ok (.iastore, 1) := by decide +kernel
theorem dX9_backs_20 : decode cX9_backs 20 = .ok (.iinc 1 1, 3) := by decide +kernel
theorem dX9_backs_23 : decode cX9_backs 23 = .ok (.goto (-21), 3) := by decide +kernel
theorem dX9_backs_26 : decode cX9_backs 26 = .ok (.return_, 1) := by decide +kernel
set_option maxRecDepth 20000 in
theorem ggX9_rolls_X9_isAtRest : GoodIn wsX9_rolls wsX9_isAtRest := goodIn_r _ [8, 2, 42, 43, 44, 45, 46, 47, 48, 49, 50, 51, 52, 53, 54, 55, 56, 57, 58, 59, 60, 61] (by decide +kernel) (by decide +kernel)
set_option maxRecDepth 20000 in
theorem gX9_rolls_X9_isAtRest : GoodIn wsX9_rolls (wsV RX9 153 RX9 yX9_isAtRest wsX9_isAtRest) := goodIn_app (goodIn_of _ (by decide +kernel)) ggX9_rolls_X9_isAtRest
set_option maxRecDepth 20000 in
theorem ggX9_rolls_X9_step : GoodIn wsX9_rolls wsX9_step := goodIn_r _ [12, 2, 13, 14, 15, 16, 7, 17, 18, 19, 20, 21, 22, 23, 24, 25, 26, 27, 28, 29, 30, 31, 32, 33, 34, 35, 36, 37, 38, 39, 40, 41, 42, 43, 44, 45, 46, 47, 48, 49, 50, 51, 52, 53, 54, 55, 56, 57, 58, 59, 60, 61] (by decide +kernel) (by decide +kernel)
set_option maxRecDepth 20000 in
theorem gX9_rolls_X9_step : GoodIn wsX9_rolls (wsV RX9 157 RX9 yX9_step wsX9_step) := goodIn_app (goodIn_of _ (by decide +kernel)) ggX9_rolls_X9_step
theorem dX9_rolls_0 : decode cX9_rolls 0 = .ok (.aload_n 0, 1) := by decide +kernel
theorem dX9_rolls_1 : decode cX9_rolls 1 = .ok (.iconst 0, 1) := by decide +kernel
theorem dX9_rolls_2 : decode cX9_rolls 2 = .ok (.putfield 173, 3) := by decide +kernel
theorem dX9_rolls_5 : decode cX9_rolls 5 = .ok (.aload_n 0, 1) := by decide +kernel
theorem dX9_rolls_6 : decode cX9_rolls 6 = .ok (.aload_n 0, 1) := by decide +kernel
theorem dX9_rolls_7 : decode cX9_rolls 7 = .ok (.getfield 7, 3) := by decide +kernel
theorem dX9_rolls_10 : decode cX9_rolls 10 = .ok (.iconst 4, 1) := by decide +kernel
theorem dX9_rolls_11 : decode cX9_rolls 11 = .ok (.iaload, 1) := by decide +kernel
theorem dX9_rolls_12 : decode cX9_rolls 12 = .ok (.putfield 176, 3) := by decide +kernel
theorem dX9_rolls_15 : decode cX9_rolls 15 = .ok (.aload_n 0, 1) := by decide +kernel
theorem dX9_rolls_16 : decode cX9_rolls 16 = .ok (.invokevirtual 153, 3) := by decide +kernel
theorem dX9_rolls_19 : decode cX9_rolls 19 = .ok (.ifCond .ne 50, 3) := by decide +kernel
theorem dX9_rolls_22 : decode cX9_rolls 22 = .ok (.aload_n 0, 1) := by decide +kernel
theorem dX9_rolls_23 : decode cX9_rolls 23 = .ok (.invokevirtual 157, 3) := by decide +kernel
theorem dX9_rolls_26 : decode cX9_rolls 26 = .ok (.aload_n 0, 1) := by decide +kernel
theorem dX9_rolls_27 : decode cX9_rolls 27 = .ok (.dup, 1) := by decide +kernel
theorem dX9_rolls_28 : decode cX9_rolls 28 = .ok (.getfield 173, 3) := by decide +kernel
theorem dX9_rolls_31 : decode cX9_rolls 31 = .ok (.iconst 1, 1) := by decide +kernel
theorem dX9_rolls_32 : decode cX9_rolls 32 = .ok (.iadd, 1) := by decide +kernel
theorem dX9_rolls_33 : decode cX9_rolls 33 = .ok (.putfield 173, 3) := by decide +kernel
theorem dX9_rolls_36 : decode cX9_rolls 36 = .ok (.aload_n 0, 1) := by decide +kernel
theorem dX9_rolls_37 : decode cX9_rolls 37 = .ok (.aload_n 0, 1) := by decide +kernel
theorem dX9_rolls_38 : decode cX9_rolls 38 = .ok (.getfield 7, 3) := by decide +kernel
theorem dX9_rolls_41 : decode cX9_rolls 41 = .ok (.iconst 4, 1) := by decide +kernel
theorem dX9_rolls_42 : decode cX9_rolls 42 = .ok (.iaload, 1) := by decide +kernel
theorem dX9_rolls_43 : decode cX9_rolls 43 = .ok (.aload_n 0, 1) := by decide +kernel
theorem dX9_rolls_44 : decode cX9_rolls 44 = .ok (.getfield 176, 3) := by decide +kernel
theorem dX9_rolls_47 : decode cX9_rolls 47 = .ok (.if_icmp .le 12, 3) := by decide +kernel
theorem dX9_rolls_50 : decode cX9_rolls 50 = .ok (.aload_n 0, 1) := by decide +kernel
theorem dX9_rolls_51 : decode cX9_rolls 51 = .ok (.getfield 7, 3) := by decide +kernel
theorem dX9_rolls_54 : decode cX9_rolls 54 = .ok (.iconst 4, 1) := by decide +kernel
theorem dX9_rolls_55 : decode cX9_rolls 55 = .ok (.iaload, 1) := by decide +kernel
theorem dX9_rolls_56 : decode cX9_rolls 56 = .ok (.goto 7, 3) := by decide +kernel
theorem dX9_rolls_59 : decode cX9_rolls 59 = .ok (.aload_n 0, 1) := by decide +kernel
theorem dX9_rolls_60 : decode cX9_rolls 60 = .ok (.getfield 176, 3) := by decide +kernel
theorem dX9_rolls_63 : decode cX9_rolls 63 = .ok (.putfield 176, 3) := by decide +kernel
theorem dX9_rolls_66 : decode cX9_rolls 66 = .ok (.goto (-51), 3) := by decide +kernel
theorem dX9_rolls_69 : decode cX9_rolls 69 = .ok (.return_, 1) := by decide +kernel
set_option maxRecDepth 20000 in
theorem ggX9_ahead_X9_in : GoodIn wsX9_ahead wsX9_in := goodIn_r _ [8] (by decide +kernel) (by decide +kernel)
set_option maxRecDepth 20000 in
theorem gX9_ahead_X9_in : GoodIn wsX9_ahead (va_wsS RX9 51 yX9_in wsX9_in) := goodIn_app (goodIn_of _ (by decide +kernel)) ggX9_ahead_X9_in
set_option maxRecDepth 20000 in
theorem ggX9_ahead_X9_asides : GoodIn wsX9_ahead wsX9_asides := goodIn_r _ [12, 13, 2, 63, 64, 65, 66, 67, 68, 69, 70, 71, 72, 73, 74, 75, 76, 77, 78, 79, 80, 81, 82] (by decide +kernel) (by decide +kernel)
set_option maxRecDepth 20000 in
theorem gX9_ahead_X9_asides : GoodIn wsX9_ahead (wsV RX9 179 RX9 yX9_asides wsX9_asides) := goodIn_app (goodIn_of _ (by decide +kernel)) ggX9_ahead_X9_asides
set_option maxRecDepth 20000 in
theorem ggX9_ahead_X9_rolls : GoodIn wsX9_ahead wsX9_rolls := goodIn_r _ [17, 3, 2, 4, 18, 19, 20, 7, 21, 22, 23, 24, 25, 26, 27, 28, 29, 30, 31, 32, 33, 34, 35, 36, 37, 38, 39, 40, 41, 42, 43, 44, 45, 46, 47, 48, 49, 50, 51, 52, 53, 54, 63, 64, 65, 66, 67, 68, 69, 70, 71, 72, 73, 74, 75, 76, 77, 78, 79, 80, 81, 82] (by decide +kernel) (by decide +kernel)
set_option maxRecDepth 20000 in
theorem gX9_ahead_X9_rolls : GoodIn wsX9_ahead (wsV RX9 182 RX9 yX9_rolls wsX9_rolls) := goodIn_app (goodIn_of _ (by decide +kernel)) ggX9_ahead_X9_rolls
set_option maxRecDepth 20000 in
theorem ggX9_ahead_X9_thoseAt : GoodIn wsX9_ahead wsX9_thoseAt := goodIn_r _ [58, 2, 35, 36, 37, 7, 38, 63, 64, 65, 66, 67, 68, 69, 70, 71, 72, 73, 74, 75, 76, 77, 78, 79, 80, 81, 82] (by decide +kernel) (by decide +kernel)
set_option maxRecDepth 20000 in
theorem gX9_ahead_X9_thoseAt : GoodIn wsX9_ahead (wsV RX9 67 RX9 yX9_thoseAt wsX9_thoseAt) := goodIn_app (goodIn_of _ (by decide +kernel)) ggX9_ahead_X9_thoseAt
set_option maxRecDepth 20000 in
theorem ggX9_ahead_X9_backs : GoodIn wsX9_ahead wsX9_backs := goodIn_r _ [62, 2, 13, 63, 64, 65, 66, 67, 68, 69, 70, 71, 72, 73, 74, 75, 76, 77, 78, 79, 80, 81, 82] (by decide +kernel) (by decide +kernel)
set_option maxRecDepth 20000 in
theorem gX9_ahead_X9_backs : GoodIn wsX9_ahead (wsV RX9 185 RX9 yX9_backs wsX9_backs) := goodIn_app (goodIn_of _ (by decide +kernel)) ggX9_ahead_X9_backs
theorem dX9_ahead_0 : decode cX9_ahead 0 = .ok (.iload_n 1, 1) := by decide +kernel
theorem dX9_ahead_1 : decode cX9_ahead 1 = .ok (.i2l, 1) := by decide +kernel
theorem dX9_ahead_2 : decode cX9_ahead 2 = .ok (.lconst 0, 1) := by decide +kernel
theorem dX9_ahead_3 : decode cX9_ahead 3 = .ok (.ldc2_w 73, 3) := by decide +kernel
theorem dX9_ahead_6 : decode cX9_ahead 6 = .ok (.invokestatic 51, 3) := by decide +kernel
theorem dX9_ahead_9 : decode cX9_ahead 9 = .ok (.ifCond .ne 5, 3) := by decide +kernel
theorem dX9_ahead_12 : decode cX9_ahead 12 = .ok (.iconst (-1), 1) := by decide +kernel
theorem dX9_ahead_13 : decode cX9_ahead 13 = .ok (.ireturn, 1) := by decide +kernel
theorem dX9_ahead_14 : decode cX9_ahead 14 = .ok (.aload_n 0, 1) := by decide +kernel
theorem dX9_ahead_15 : decode cX9_ahead 15 = .ok (.invokevirtual 179, 3) := by decide +kernel
theorem dX9_ahead_18 : decode cX9_ahead 18 = .ok (.aload_n 0, 1) := by decide +kernel
theorem dX9_ahead_19 : decode cX9_ahead 19 = .ok (.invokevirtual 182, 3) := by decide +kernel
theorem dX9_ahead_22 : decode cX9_ahead 22 = .ok (.iload_n 1, 1) := by decide +kernel
theorem dX9_ahead_23 : decode cX9_ahead 23 = .ok (.ifCond .ne 12, 3) := by decide +kernel
theorem dX9_ahead_26 : decode cX9_ahead 26 = .ok (.aload_n 0, 1) := by decide +kernel
theorem dX9_ahead_27 : decode cX9_ahead 27 = .ok (.getfield 7, 3) := by decide +kernel
theorem dX9_ahead_30 : decode cX9_ahead 30 = .ok (.iconst 2, 1) := by decide +kernel
theorem dX9_ahead_31 : decode cX9_ahead 31 = .ok (.iaload, 1) := by decide +kernel
theorem dX9_ahead_32 : decode cX9_ahead 32 = .ok (.goto 46, 3) := by decide +kernel
theorem dX9_ahead_35 : decode cX9_ahead 35 = .ok (.iload_n 1, 1) := by decide +kernel
theorem dX9_ahead_36 : decode cX9_ahead 36 = .ok (.iconst 1, 1) := by decide +kernel
theorem dX9_ahead_37 : decode cX9_ahead 37 = .ok (.if_icmp .ne 12, 3) := by decide +kernel
theorem dX9_ahead_40 : decode cX9_ahead 40 = .ok (.aload_n 0, 1) := by decide +kernel
theorem dX9_ahead_41 : decode cX9_ahead 41 = .ok (.getfield 7, 3) := by decide +kernel
theorem dX9_ahead_44 : decode cX9_ahead 44 = .ok (.iconst 3, 1) := by decide +kernel
theorem dX9_ahead_45 : decode cX9_ahead 45 = .ok (.iaload, 1) := by decide +kernel
theorem dX9_ahead_46 : decode cX9_ahead 46 = .ok (.goto 32, 3) := by decide +kernel
theorem dX9_ahead_49 : decode cX9_ahead 49 = .ok (.iload_n 1, 1) := by decide +kernel
theorem dX9_ahead_50 : decode cX9_ahead 50 = .ok (.iconst 2, 1) := by decide +kernel
theorem dX9_ahead_51 : decode cX9_ahead 51 = .ok (.if_icmp .ne 11, 3) := by decide +kernel
theorem dX9_ahead_54 : decode cX9_ahead 54 = .ok (.aload_n 0, 1) := by decide +kernel
theorem dX9_ahead_55 : decode cX9_ahead 55 = .ok (.iconst (-1), 1) := by decide +kernel
theorem dX9_ahead_56 : decode cX9_ahead 56 = .ok (.invokevirtual 67, 3) := by decide +kernel
theorem dX9_ahead_59 : decode cX9_ahead 59 = .ok (.goto 19, 3) := by decide +kernel
theorem dX9_ahead_62 : decode cX9_ahead 62 = .ok (.iload_n 1, 1) := by decide +kernel
theorem dX9_ahead_63 : decode cX9_ahead 63 = .ok (.iconst 3, 1) := by decide +kernel
theorem dX9_ahead_64 : decode cX9_ahead 64 = .ok (.if_icmp .ne 10, 3) := by decide +kernel
theorem dX9_ahead_67 : decode cX9_ahead 67 = .ok (.aload_n 0, 1) := by decide +kernel
theorem dX9_ahead_68 : decode cX9_ahead 68 = .ok (.getfield 173, 3) := by decide +kernel
theorem dX9_ahead_71 : decode cX9_ahead 71 = .ok (.goto 7, 3) := by decide +kernel
theorem dX9_ahead_74 : decode cX9_ahead 74 = .ok (.aload_n 0, 1) := by decide +kernel
theorem dX9_ahead_75 : decode cX9_ahead 75 = .ok (.getfield 176, 3) := by decide +kernel
theorem dX9_ahead_78 : decode cX9_ahead 78 = .ok (.istore_n 2, 1) := by decide +kernel
theorem dX9_ahead_79 : decode cX9_ahead 79 = .ok (.aload_n 0, 1) := by decide +kernel
theorem dX9_ahead_80 : decode cX9_ahead 80 = .ok (.invokevirtual 185, 3) := by decide +kernel
theorem dX9_ahead_83 : decode cX9_ahead 83 = .ok (.iload_n 2, 1) := by decide +kernel
theorem dX9_ahead_84 : decode cX9_ahead 84 = .ok (.ireturn, 1) := by decide +kernel
set_option maxRecDepth 20000 in
theorem ggX9_order_X9_asides : GoodIn wsX9_order wsX9_asides := goodIn_r _ [6, 7, 1, 55, 56, 57, 58, 59, 60, 61, 62, 63, 64, 65, 66, 67, 68, 69, 70, 71, 72, 73, 74] (by decide +kernel) (by decide +kernel)
set_option maxRecDepth 20000 in
theorem gX9_order_X9_asides : GoodIn wsX9_order (wsV RX9 179 RX9 yX9_asides wsX9_asides) := goodIn_app (goodIn_of _ (by decide +kernel)) ggX9_order_X9_asides
set_option maxRecDepth 20000 in
theorem ggX9_order_X9_rolls : GoodIn wsX9_order wsX9_rolls := goodIn_r _ [11, 12, 1, 13, 14, 15, 16, 5, 17, 18, 19, 20, 21, 22, 23, 24, 25, 26, 27, 28, 29, 30, 31, 32, 33, 34, 35, 36, 37, 38, 39, 40, 41, 42, 43, 44, 45, 46, 47, 48, 49, 50, 55, 56, 57, 58, 59, 60, 61, 62, 63, 64, 65, 66, 67, 68, 69, 70, 71, 72, 73, 74] (by decide +kernel) (by decide +kernel)
set_option maxRecDepth 20000 in
theorem gX9_order_X9_rolls : GoodIn wsX9_order (wsV RX9 182 RX9 yX9_rolls wsX9_rolls) := goodIn_app (goodIn_of _ (by decide +kernel)) ggX9_order_X9_rolls
set_option maxRecDepth 20000 in
theorem ggX9_order_X9_backs : GoodIn wsX9_order wsX9_backs := goodIn_r _ [54, 1, 7, 55, 56, 57, 58, 59, 60, 61, 62, 63, 64, 65, 66, 67, 68, 69, 70, 71, 72, 73, 74] (by decide +kernel) (by decide +kernel)
set_option maxRecDepth 20000 in
theorem gX9_order_X9_backs : GoodIn wsX9_order (wsV RX9 185 RX9 yX9_backs wsX9_backs) := goodIn_app (goodIn_of _ (by decide +kernel)) ggX9_order_X9_backs
theorem dX9_order_0 : decode cX9_order 0 = .ok (.iload_n 1, 1) := by decide +kernel
theorem dX9_order_1 : decode cX9_order 1 = .ok (.ifCond .ge 5, 3) := by decide +kernel
theorem dX9_order_4 : decode cX9_order 4 = .ok (.iconst (-1), 1) := by decide +kernel
theorem dX9_order_5 : decode cX9_order 5 = .ok (.ireturn, 1) := by decide +kernel
theorem dX9_order_6 : decode cX9_order 6 = .ok (.aload_n 0, 1) := by decide +kernel
theorem dX9_order_7 : decode cX9_order 7 = .ok (.invokevirtual 179, 3) := by decide +kernel
theorem dX9_order_10 : decode cX9_order 10 = .ok (.aload_n 0, 1) := by decide +kernel
theorem dX9_order_11 : decode cX9_order 11 = .ok (.invokevirtual 182, 3) := by decide +kernel
theorem dX9_order_14 : decode cX9_order 14 = .ok (.iload_n 1, 1) := by decide +kernel
theorem dX9_order_15 : decode cX9_order 15 = .ok (.aload_n 0, 1) := by decide +kernel
theorem dX9_order_16 : decode cX9_order 16 = .ok (.getfield 7, 3) := by decide +kernel
theorem dX9_order_19 : decode cX9_order 19 = .ok (.bipush 6, 2) := by decide +kernel
theorem dX9_order_21 : decode cX9_order 21 = .ok (.iaload, 1) := by decide +kernel
theorem dX9_order_22 : decode cX9_order 22 = .ok (.if_icmp .ge 15, 3) := by decide +kernel
theorem dX9_order_25 : decode cX9_order 25 = .ok (.aload_n 0, 1) := by decide +kernel
theorem dX9_order_26 : decode cX9_order 26 = .ok (.getfield 7, 3) := by decide +kernel
theorem dX9_order_29 : decode cX9_order 29 = .ok (.bipush 80, 2) := by decide +kernel
theorem dX9_order_31 : decode cX9_order 31 = .ok (.iload_n 1, 1) := by decide +kernel
theorem dX9_order_32 : decode cX9_order 32 = .ok (.iadd, 1) := by decide +kernel
theorem dX9_order_33 : decode cX9_order 33 = .ok (.iaload, 1) := by decide +kernel
theorem dX9_order_34 : decode cX9_order 34 = .ok (.goto 5, 3) := by decide +kernel
theorem dX9_order_37 : decode cX9_order 37 = .ok (.bipush (-4), 2) := by decide +kernel
theorem dX9_order_39 : decode cX9_order 39 = .ok (.istore_n 2, 1) := by decide +kernel
theorem dX9_order_40 : decode cX9_order 40 = .ok (.aload_n 0, 1) := by decide +kernel
theorem dX9_order_41 : decode cX9_order 41 = .ok (.invokevirtual 185, 3) := by decide +kernel
theorem dX9_order_44 : decode cX9_order 44 = .ok (.iload_n 2, 1) := by decide +kernel
theorem dX9_order_45 : decode cX9_order 45 = .ok (.ireturn, 1) := by decide +kernel
set_option maxRecDepth 20000 in
theorem ggX9_push_X9_isAtRest : GoodIn wsX9_push wsX9_isAtRest := goodIn_r _ [7, 2, 55, 56, 57, 58, 59, 60, 61, 62, 63, 64, 65, 66, 67, 68, 69, 70, 71, 72, 73, 74] (by decide +kernel) (by decide +kernel)
set_option maxRecDepth 20000 in
theorem gX9_push_X9_isAtRest : GoodIn wsX9_push (wsV RX9 153 RX9 yX9_isAtRest wsX9_isAtRest) := goodIn_app (goodIn_of _ (by decide +kernel)) ggX9_push_X9_isAtRest
set_option maxRecDepth 20000 in
theorem ggX9_push_X9_asides : GoodIn wsX9_push wsX9_asides := goodIn_r _ [11, 1, 2, 55, 56, 57, 58, 59, 60, 61, 62, 63, 64, 65, 66, 67, 68, 69, 70, 71, 72, 73, 74] (by decide +kernel) (by decide +kernel)
set_option maxRecDepth 20000 in
theorem gX9_push_X9_asides : GoodIn wsX9_push (wsV RX9 179 RX9 yX9_asides wsX9_asides) := goodIn_app (goodIn_of _ (by decide +kernel)) ggX9_push_X9_asides
set_option maxRecDepth 20000 in
theorem ggX9_push_X9_rolls : GoodIn wsX9_push wsX9_rolls := goodIn_r _ [15, 16, 2, 17, 3, 4, 5, 6, 7, 18, 19, 20, 21, 22, 23, 24, 25, 26, 27, 28, 29, 30, 31, 32, 33, 34, 35, 36, 37, 38, 39, 40, 41, 42, 43, 44, 45, 46, 47, 48, 49, 50, 55, 56, 57, 58, 59, 60, 61, 62, 63, 64, 65, 66, 67, 68, 69, 70, 71, 72, 73, 74] (by decide +kernel) (by decide +kernel)
set_option maxRecDepth 20000 in
theorem gX9_push_X9_rolls : GoodIn wsX9_push (wsV RX9 182 RX9 yX9_rolls wsX9_rolls) := goodIn_app (goodIn_of _ (by decide +kernel)) ggX9_push_X9_rolls
set_option maxRecDepth 20000 in
theorem ggX9_push_X9_backs : GoodIn wsX9_push wsX9_backs := goodIn_r _ [54, 2, 1, 55, 56, 57, 58, 59, 60, 61, 62, 63, 64, 65, 66, 67, 68, 69, 70, 71, 72, 73, 74] (by decide +kernel) (by decide +kernel)
set_option maxRecDepth 20000 in
theorem gX9_push_X9_backs : GoodIn wsX9_push (wsV RX9 185 RX9 yX9_backs wsX9_backs) := goodIn_app (goodIn_of _ (by decide +kernel)) ggX9_push_X9_backs
theorem dX9_push_0 : decode cX9_push 0 = .ok (.aload_n 0, 1) := by decide +kernel
theorem dX9_push_1 : decode cX9_push 1 = .ok (.invokevirtual 153, 3) := by decide +kernel
theorem dX9_push_4 : decode cX9_push 4 = .ok (.ifCond .eq 6, 3) := by decide +kernel
theorem dX9_push_7 : decode cX9_push 7 = .ok (.bipush (-2), 2) := by decide +kernel
theorem dX9_push_9 : decode cX9_push 9 = .ok (.ireturn, 1) := by decide +kernel
theorem dX9_push_10 : decode cX9_push 10 = .ok (.aload_n 0, 1) := by decide +kernel
theorem dX9_push_11 : decode cX9_push 11 = .ok (.invokevirtual 179, 3) := by decide +kernel
theorem dX9_push_14 : decode cX9_push 14 = .ok (.bipush (-4), 2) := by decide +kernel
theorem dX9_push_16 : decode cX9_push 16 = .ok (.istore_n 1, 1) := by decide +kernel
theorem dX9_push_17 : decode cX9_push 17 = .ok (.iconst 0, 1) := by decide +kernel
theorem dX9_push_18 : decode cX9_push 18 = .ok (.istore_n 2, 1) := by decide +kernel
theorem dX9_push_19 : decode cX9_push 19 = .ok (.aload_n 0, 1) := by decide +kernel
theorem dX9_push_20 : decode cX9_push 20 = .ok (.getfield 29, 3) := by decide +kernel
theorem dX9_push_23 : decode cX9_push 23 = .ok (.iconst 4, 1) := by decide +kernel
theorem dX9_push_24 : decode cX9_push 24 = .ok (.iaload, 1) := by decide +kernel
theorem dX9_push_25 : decode cX9_push 25 = .ok (.iload_n 2, 1) := by decide +kernel
theorem dX9_push_26 : decode cX9_push 26 = .ok (.iadd, 1) := by decide +kernel
theorem dX9_push_27 : decode cX9_push 27 = .ok (.bipush 100, 2) := by decide +kernel
theorem dX9_push_29 : decode cX9_push 29 = .ok (.if_icmp .ge 55, 3) := by decide +kernel
theorem dX9_push_32 : decode cX9_push 32 = .ok (.iload_n 1, 1) := by decide +kernel
theorem dX9_push_33 : decode cX9_push 33 = .ok (.bipush (-4), 2) := by decide +kernel
theorem dX9_push_35 : decode cX9_push 35 = .ok (.if_icmp .ne 49, 3) := by decide +kernel
theorem dX9_push_38 : decode cX9_push 38 = .ok (.aload_n 0, 1) := by decide +kernel
theorem dX9_push_39 : decode cX9_push 39 = .ok (.getfield 7, 3) := by decide +kernel
theorem dX9_push_42 : decode cX9_push 42 = .ok (.iconst 4, 1) := by decide +kernel
theorem dX9_push_43 : decode cX9_push 43 = .ok (.dup2, 1) := by decide +kernel
theorem dX9_push_44 : decode cX9_push 44 = .ok (.iaload, 1) := by decide +kernel
theorem dX9_push_45 : decode cX9_push 45 = .ok (.iload_n 2, 1) := by decide +kernel
theorem dX9_push_46 : decode cX9_push 46 = .ok (.iadd, 1) := by decide +kernel
theorem dX9_push_47 : decode cX9_push 47 = .ok (.iastore, 1) := by decide +kernel
theorem dX9_push_48 : decode cX9_push 48 = .ok (.aload_n 0, 1) := by decide +kernel
theorem dX9_push_49 : decode cX9_push 49 = .ok (.invokevirtual 182, 3) := by decide +kernel
theorem dX9_push_52 : decode cX9_push 52 = .ok (.aload_n 0, 1) := by decide +kernel
theorem dX9_push_53 : decode cX9_push 53 = .ok (.getfield 7, 3) := by decide +kernel
theorem dX9_push_56 : decode cX9_push 56 = .ok (.iconst 2, 1) := by decide +kernel
theorem dX9_push_57 : decode cX9_push 57 = .ok (.iaload, 1) := by decide +kernel
theorem dX9_push_58 : decode cX9_push 58 = .ok (.aload_n 0, 1) := by decide +kernel
theorem dX9_push_59 : decode cX9_push 59 = .ok (.getfield 7, 3) := by decide +kernel
theorem dX9_push_62 : decode cX9_push 62 = .ok (.iconst 0, 1) := by decide +kernel
theorem dX9_push_63 : decode cX9_push 63 = .ok (.iaload, 1) := by decide +kernel
theorem dX9_push_64 : decode cX9_push 64 = .ok (.if_icmp .ne 7, 3) := by decide +kernel
theorem dX9_push_67 : decode cX9_push 67 = .ok (.iload_n 2, 1) := by decide +kernel
theorem dX9_push_68 : decode cX9_push 68 = .ok (.goto 5, 3) := by decide +kernel
theorem dX9_push_71 : decode cX9_push 71 = .ok (.bipush (-4), 2) := by decide +kernel
theorem dX9_push_73 : decode cX9_push 73 = .ok (.istore_n 1, 1) := by decide +kernel
theorem dX9_push_74 : decode cX9_push 74 = .ok (.aload_n 0, 1) := by decide +kernel
theorem dX9_push_75 : decode cX9_push 75 = .ok (.invokevirtual 185, 3) := by decide +kernel
theorem dX9_push_78 : decode cX9_push 78 = .ok (.iinc 2 1, 3) := by decide +kernel
theorem dX9_push_81 : decode cX9_push 81 = .ok (.goto (-62), 3) := by decide +kernel
theorem dX9_push_84 : decode cX9_push 84 = .ok (.iload_n 1, 1) := by decide +kernel
theorem dX9_push_85 : decode cX9_push 85 = .ok (.ireturn, 1) := by decide +kernel
set_option maxRecDepth 20000 in
theorem ggX9_bank_X9_in : GoodIn wsX9_bank wsX9_in := goodIn_r _ [6] (by decide +kernel) (by decide +kernel)
set_option maxRecDepth 20000 in
theorem gX9_bank_X9_in : GoodIn wsX9_bank (va_wsS RX9 51 yX9_in wsX9_in) := goodIn_app (goodIn_of _ (by decide +kernel)) ggX9_bank_X9_in
set_option maxRecDepth 20000 in
theorem ggX9_bank_X9_asides : GoodIn wsX9_bank wsX9_asides := goodIn_r _ [10, 11, 1, 58, 59, 60, 61, 62, 63, 64, 65, 66, 67, 68, 69, 70, 71, 72, 73, 74, 75, 76, 77] (by decide +kernel) (by decide +kernel)
set_option maxRecDepth 20000 in
theorem gX9_bank_X9_asides : GoodIn wsX9_bank (wsV RX9 179 RX9 yX9_asides wsX9_asides) := goodIn_app (goodIn_of _ (by decide +kernel)) ggX9_bank_X9_asides
set_option maxRecDepth 20000 in
theorem ggX9_bank_X9_rolls : GoodIn wsX9_bank wsX9_rolls := goodIn_r _ [15, 16, 1, 17, 18, 19, 20, 5, 21, 22, 23, 24, 25, 2, 26, 27, 28, 29, 30, 31, 32, 33, 34, 35, 36, 37, 38, 39, 40, 41, 42, 43, 44, 45, 46, 47, 48, 49, 50, 51, 52, 53, 58, 59, 60, 61, 62, 63, 64, 65, 66, 67, 68, 69, 70, 71, 72, 73, 74, 75, 76, 77] (by decide +kernel) (by decide +kernel)
set_option maxRecDepth 20000 in
theorem gX9_bank_X9_rolls : GoodIn wsX9_bank (wsV RX9 182 RX9 yX9_rolls wsX9_rolls) := goodIn_app (goodIn_of _ (by decide +kernel)) ggX9_bank_X9_rolls
set_option maxRecDepth 20000 in
theorem ggX9_bank_X9_backs : GoodIn wsX9_bank wsX9_backs := goodIn_r _ [57, 1, 11, 58, 59, 60, 61, 62, 63, 64, 65, 66, 67, 68, 69, 70, 71, 72, 73, 74, 75, 76, 77] (by decide +kernel) (by decide +kernel)
set_option maxRecDepth 20000 in
theorem gX9_bank_X9_backs : GoodIn wsX9_bank (wsV RX9 185 RX9 yX9_backs wsX9_backs) := goodIn_app (goodIn_of _ (by decide +kernel)) ggX9_bank_X9_backs
theorem dX9_bank_0 : decode cX9_bank 0 = .ok (.iload_n 1, 1) := by decide +kernel
theorem dX9_bank_1 : decode cX9_bank 1 = .ok (.i2l, 1) := by decide +kernel
theorem dX9_bank_2 : decode cX9_bank 2 = .ok (.lconst 0, 1) := by decide +kernel
theorem dX9_bank_3 : decode cX9_bank 3 = .ok (.lconst 1, 1) := by decide +kernel
theorem dX9_bank_4 : decode cX9_bank 4 = .ok (.invokestatic 51, 3) := by decide +kernel
theorem dX9_bank_7 : decode cX9_bank 7 = .ok (.ifCond .ne 5, 3) := by decide +kernel
theorem dX9_bank_10 : decode cX9_bank 10 = .ok (.iconst (-1), 1) := by decide +kernel
theorem dX9_bank_11 : decode cX9_bank 11 = .ok (.ireturn, 1) := by decide +kernel
theorem dX9_bank_12 : decode cX9_bank 12 = .ok (.bipush (-4), 2) := by decide +kernel
theorem dX9_bank_14 : decode cX9_bank 14 = .ok (.istore_n 2, 1) := by decide +kernel
theorem dX9_bank_15 : decode cX9_bank 15 = .ok (.bipush (-4), 2) := by decide +kernel
theorem dX9_bank_17 : decode cX9_bank 17 = .ok (.istore_n 3, 1) := by decide +kernel
theorem dX9_bank_18 : decode cX9_bank 18 = .ok (.aload_n 0, 1) := by decide +kernel
theorem dX9_bank_19 : decode cX9_bank 19 = .ok (.invokevirtual 179, 3) := by decide +kernel
theorem dX9_bank_22 : decode cX9_bank 22 = .ok (.iconst 0, 1) := by decide +kernel
theorem dX9_bank_23 : decode cX9_bank 23 = .ok (.istore 4, 2) := by decide +kernel
theorem dX9_bank_25 : decode cX9_bank 25 = .ok (.iload 4, 2) := by decide +kernel
theorem dX9_bank_27 : decode cX9_bank 27 = .ok (.aload_n 0, 1) := by decide +kernel
theorem dX9_bank_28 : decode cX9_bank 28 = .ok (.getfield 7, 3) := by decide +kernel
theorem dX9_bank_31 : decode cX9_bank 31 = .ok (.iconst 0, 1) := by decide +kernel
theorem dX9_bank_32 : decode cX9_bank 32 = .ok (.iaload, 1) := by decide +kernel
theorem dX9_bank_33 : decode cX9_bank 33 = .ok (.if_icmp .ge 74, 3) := by decide +kernel
theorem dX9_bank_36 : decode cX9_bank 36 = .ok (.aload_n 0, 1) := by decide +kernel
theorem dX9_bank_37 : decode cX9_bank 37 = .ok (.iload 4, 2) := by decide +kernel
theorem dX9_bank_39 : decode cX9_bank 39 = .ok (.putfield 22, 3) := by decide +kernel
theorem dX9_bank_42 : decode cX9_bank 42 = .ok (.aload_n 0, 1) := by decide +kernel
theorem dX9_bank_43 : decode cX9_bank 43 = .ok (.invokevirtual 182, 3) := by decide +kernel
theorem dX9_bank_46 : decode cX9_bank 46 = .ok (.iload_n 2, 1) := by decide +kernel
theorem dX9_bank_47 : decode cX9_bank 47 = .ok (.bipush (-4), 2) := by decide +kernel
theorem dX9_bank_49 : decode cX9_bank 49 = .ok (.if_icmp .eq 13, 3) := by decide +kernel
theorem dX9_bank_52 : decode cX9_bank 52 = .ok (.aload_n 0, 1) := by decide +kernel
theorem dX9_bank_53 : decode cX9_bank 53 = .ok (.getfield 7, 3) := by decide +kernel
theorem dX9_bank_56 : decode cX9_bank 56 = .ok (.iconst 2, 1) := by decide +kernel
theorem dX9_bank_57 : decode cX9_bank 57 = .ok (.iaload, 1) := by decide +kernel
theorem dX9_bank_58 : decode cX9_bank 58 = .ok (.iload_n 3, 1) := by decide +kernel
theorem dX9_bank_59 : decode cX9_bank 59 = .ok (.if_icmp .ge 7, 3) := by decide +kernel
theorem dX9_bank_62 : decode cX9_bank 62 = .ok (.iconst 1, 1) := by decide +kernel
theorem dX9_bank_63 : decode cX9_bank 63 = .ok (.goto 4, 3) := by decide +kernel
theorem dX9_bank_66 : decode cX9_bank 66 = .ok (.iconst 0, 1) := by decide +kernel
theorem dX9_bank_67 : decode cX9_bank 67 = .ok (.istore 5, 2) := by decide +kernel
theorem dX9_bank_69 : decode cX9_bank 69 = .ok (.iload 5, 2) := by decide +kernel
theorem dX9_bank_71 : decode cX9_bank 71 = .ok (.ifCond .eq 8, 3) := by decide +kernel
theorem dX9_bank_74 : decode cX9_bank 74 = .ok (.iload 4, 2) := by decide +kernel
theorem dX9_bank_76 : decode cX9_bank 76 = .ok (.goto 4, 3) := by decide +kernel
theorem dX9_bank_79 : decode cX9_bank 79 = .ok (.iload_n 2, 1) := by decide +kernel
theorem dX9_bank_80 : decode cX9_bank 80 = .ok (.istore_n 2, 1) := by decide +kernel
theorem dX9_bank_81 : decode cX9_bank 81 = .ok (.iload 5, 2) := by decide +kernel
theorem dX9_bank_83 : decode cX9_bank 83 = .ok (.ifCond .eq 12, 3) := by decide +kernel
theorem dX9_bank_86 : decode cX9_bank 86 = .ok (.aload_n 0, 1) := by decide +kernel
theorem dX9_bank_87 : decode cX9_bank 87 = .ok (.getfield 7, 3) := by decide +kernel
theorem dX9_bank_90 : decode cX9_bank 90 = .ok (.iconst 2, 1) := by decide +kernel
theorem dX9_bank_91 : decode cX9_bank 91 = .ok (.iaload, 1) := by decide +kernel
theorem dX9_bank_92 : decode cX9_bank 92 = .ok (.goto 4, 3) := by decide +kernel
theorem dX9_bank_95 : decode cX9_bank 95 = .ok (.iload_n 3, 1) := by decide +kernel
theorem dX9_bank_96 : decode cX9_bank 96 = .ok (.istore_n 3, 1) := by decide +kernel
theorem dX9_bank_97 : decode cX9_bank 97 = .ok (.aload_n 0, 1) := by decide +kernel
theorem dX9_bank_98 : decode cX9_bank 98 = .ok (.invokevirtual 185, 3) := by decide +kernel
theorem dX9_bank_101 : decode cX9_bank 101 = .ok (.iinc 4 1, 3) := by decide +kernel
theorem dX9_bank_104 : decode cX9_bank 104 = .ok (.goto (-79), 3) := by decide +kernel
theorem dX9_bank_107 : decode cX9_bank 107 = .ok (.aload_n 0, 1) := by decide +kernel
theorem dX9_bank_108 : decode cX9_bank 108 = .ok (.bipush (-4), 2) := by decide +kernel
theorem dX9_bank_110 : decode cX9_bank 110 = .ok (.putfield 22, 3) := by decide +kernel
theorem dX9_bank_113 : decode cX9_bank 113 = .ok (.iload_n 1, 1) := by decide +kernel
theorem dX9_bank_114 : decode cX9_bank 114 = .ok (.ifCond .ne 7, 3) := by decide +kernel
theorem dX9_bank_117 : decode cX9_bank 117 = .ok (.iload_n 2, 1) := by decide +kernel
theorem dX9_bank_118 : decode cX9_bank 118 = .ok (.goto 4, 3) := by decide +kernel
theorem dX9_bank_121 : decode cX9_bank 121 = .ok (.iload_n 3, 1) := by decide +kernel
theorem dX9_bank_122 : decode cX9_bank 122 = .ok (.ireturn, 1) := by decide +kernel
set_option maxRecDepth 20000 in
theorem ggX9_lay_X9_isThing : GoodIn wsX9_lay wsX9_isThing := goodIn_r _ [6, 1, 7, 8, 5, 9, 62, 63, 64, 65, 66, 67, 68, 69, 70, 71, 72, 73, 74, 75, 76, 77, 78, 79, 80, 81] (by decide +kernel) (by decide +kernel)
set_option maxRecDepth 20000 in
theorem gX9_lay_X9_isThing : GoodIn wsX9_lay (wsV RX9 79 RX9 yX9_isThing wsX9_isThing) := goodIn_app (goodIn_of _ (by decide +kernel)) ggX9_lay_X9_isThing
set_option maxRecDepth 20000 in
theorem ggX9_lay_X9_in : GoodIn wsX9_lay wsX9_in := goodIn_r _ [9] (by decide +kernel) (by decide +kernel)
set_option maxRecDepth 20000 in
theorem gX9_lay_X9_in : GoodIn wsX9_lay (va_wsS RX9 51 yX9_in wsX9_in) := goodIn_app (goodIn_of _ (by decide +kernel)) ggX9_lay_X9_in
set_option maxRecDepth 20000 in
theorem ggX9_lay_X9_where : GoodIn wsX9_lay wsX9_where := goodIn_r _ [13, 1, 62, 63, 64, 65, 66, 67, 68, 69, 70, 71, 72, 73, 74, 75, 76, 77, 78, 79, 80, 81] (by decide +kernel) (by decide +kernel)
set_option maxRecDepth 20000 in
theorem gX9_lay_X9_where : GoodIn wsX9_lay (wsV RX9 55 RX9 yX9_where wsX9_where) := goodIn_app (goodIn_of _ (by decide +kernel)) ggX9_lay_X9_where
set_option maxRecDepth 20000 in
theorem ggX9_lay_X9_asides : GoodIn wsX9_lay wsX9_asides := goodIn_r _ [17, 18, 1, 62, 63, 64, 65, 66, 67, 68, 69, 70, 71, 72, 73, 74, 75, 76, 77, 78, 79, 80, 81] (by decide +kernel) (by decide +kernel)
set_option maxRecDepth 20000 in
theorem gX9_lay_X9_asides : GoodIn wsX9_lay (wsV RX9 179 RX9 yX9_asides wsX9_asides) := goodIn_app (goodIn_of _ (by decide +kernel)) ggX9_lay_X9_asides
set_option maxRecDepth 20000 in
theorem ggX9_lay_X9_rolls : GoodIn wsX9_lay wsX9_rolls := goodIn_r _ [22, 23, 1, 24, 25, 26, 27, 5, 28, 29, 30, 31, 32, 33, 34, 35, 36, 37, 38, 39, 40, 41, 10, 11, 12, 13, 42, 43, 44, 45, 46, 47, 48, 49, 50, 51, 52, 53, 54, 55, 56, 57, 62, 63, 64, 65, 66, 67, 68, 69, 70, 71, 72, 73, 74, 75, 76, 77, 78, 79, 80, 81] (by decide +kernel) (by decide +kernel)
set_option maxRecDepth 20000 in
theorem gX9_lay_X9_rolls : GoodIn wsX9_lay (wsV RX9 182 RX9 yX9_rolls wsX9_rolls) := goodIn_app (goodIn_of _ (by decide +kernel)) ggX9_lay_X9_rolls
set_option maxRecDepth 20000 in
theorem ggX9_lay_X9_backs : GoodIn wsX9_lay wsX9_backs := goodIn_r _ [61, 1, 18, 62, 63, 64, 65, 66, 67, 68, 69, 70, 71, 72, 73, 74, 75, 76, 77, 78, 79, 80, 81] (by decide +kernel) (by decide +kernel)
set_option maxRecDepth 20000 in
theorem gX9_lay_X9_backs : GoodIn wsX9_lay (wsV RX9 185 RX9 yX9_backs wsX9_backs) := goodIn_app (goodIn_of _ (by decide +kernel)) ggX9_lay_X9_backs
theorem dX9_lay_0 : decode cX9_lay 0 = .ok (.aload_n 0, 1) := by decide +kernel
theorem dX9_lay_1 : decode cX9_lay 1 = .ok (.iload_n 1, 1) := by decide +kernel
theorem dX9_lay_2 : decode cX9_lay 2 = .ok (.invokevirtual 79, 3) := by decide +kernel
theorem dX9_lay_5 : decode cX9_lay 5 = .ok (.ifCond .eq 13, 3) := by decide +kernel
theorem dX9_lay_8 : decode cX9_lay 8 = .ok (.iload_n 2, 1) := by decide +kernel
theorem dX9_lay_9 : decode cX9_lay 9 = .ok (.i2l, 1) := by decide +kernel
theorem dX9_lay_10 : decode cX9_lay 10 = .ok (.lconst 0, 1) := by decide +kernel
theorem dX9_lay_11 : decode cX9_lay 11 = .ok (.lconst 1, 1) := by decide +kernel
theorem dX9_lay_12 : decode cX9_lay 12 = .ok (.invokestatic 51, 3) := by decide +kernel
theorem dX9_lay_15 : decode cX9_lay 15 = .ok (.ifCond .ne 5, 3) := by decide +kernel
theorem dX9_lay_18 : decode cX9_lay 18 = .ok (.iconst (-1), 1) := by decide +kernel
theorem dX9_lay_19 : decode cX9_lay 19 = .ok (.ireturn, 1) := by decide +kernel
theorem dX9_lay_20 : decode cX9_lay 20 = .ok (.aload_n 0, 1) := by decide +kernel
theorem dX9_lay_21 : decode cX9_lay 21 = .ok (.iload_n 1, 1) := by decide +kernel
theorem dX9_lay_22 : decode cX9_lay 22 = .ok (.invokevirtual 55, 3) := by decide +kernel
theorem dX9_lay_25 : decode cX9_lay 25 = .ok (.ifCond .ge 6, 3) := by decide +kernel
theorem dX9_lay_28 : decode cX9_lay 28 = .ok (.bipush (-2), 2) := by decide +kernel
theorem dX9_lay_30 : decode cX9_lay 30 = .ok (.ireturn, 1) := by decide +kernel
theorem dX9_lay_31 : decode cX9_lay 31 = .ok (.bipush (-4), 2) := by decide +kernel
theorem dX9_lay_33 : decode cX9_lay 33 = .ok (.istore_n 3, 1) := by decide +kernel
theorem dX9_lay_34 : decode cX9_lay 34 = .ok (.bipush (-4), 2) := by decide +kernel
theorem dX9_lay_36 : decode cX9_lay 36 = .ok (.istore 4, 2) := by decide +kernel
theorem dX9_lay_38 : decode cX9_lay 38 = .ok (.aload_n 0, 1) := by decide +kernel
theorem dX9_lay_39 : decode cX9_lay 39 = .ok (.invokevirtual 179, 3) := by decide +kernel
theorem dX9_lay_42 : decode cX9_lay 42 = .ok (.iconst 0, 1) := by decide +kernel
theorem dX9_lay_43 : decode cX9_lay 43 = .ok (.istore 5, 2) := by decide +kernel
theorem dX9_lay_45 : decode cX9_lay 45 = .ok (.iload 5, 2) := by decide +kernel
theorem dX9_lay_47 : decode cX9_lay 47 = .ok (.aload_n 0, 1) := by decide +kernel
theorem dX9_lay_48 : decode cX9_lay 48 = .ok (.getfield 7, 3) := by decide +kernel
theorem dX9_lay_51 : decode cX9_lay 51 = .ok (.iconst 0, 1) := by decide +kernel
theorem dX9_lay_52 : decode cX9_lay 52 = .ok (.iaload, 1) := by decide +kernel
theorem dX9_lay_53 : decode cX9_lay 53 = .ok (.if_icmp .ge 86, 3) := by decide +kernel
theorem dX9_lay_56 : decode cX9_lay 56 = .ok (.aload_n 0, 1) := by decide +kernel
theorem dX9_lay_57 : decode cX9_lay 57 = .ok (.getfield 7, 3) := by decide +kernel
theorem dX9_lay_60 : decode cX9_lay 60 = .ok (.bipush 56, 2) := by decide +kernel
theorem dX9_lay_62 : decode cX9_lay 62 = .ok (.iconst 3, 1) := by decide +kernel
theorem dX9_lay_63 : decode cX9_lay 63 = .ok (.iload_n 1, 1) := by decide +kernel
theorem dX9_lay_64 : decode cX9_lay 64 = .ok (.imul, 1) := by decide +kernel
theorem dX9_lay_65 : decode cX9_lay 65 = .ok (.iadd, 1) := by decide +kernel
theorem dX9_lay_66 : decode cX9_lay 66 = .ok (.iconst 2, 1) := by decide +kernel
theorem dX9_lay_67 : decode cX9_lay 67 = .ok (.iadd, 1) := by decide +kernel
theorem dX9_lay_68 : decode cX9_lay 68 = .ok (.iload 5, 2) := by decide +kernel
theorem dX9_lay_70 : decode cX9_lay 70 = .ok (.iastore, 1) := by decide +kernel
theorem dX9_lay_71 : decode cX9_lay 71 = .ok (.aload_n 0, 1) := by decide +kernel
theorem dX9_lay_72 : decode cX9_lay 72 = .ok (.invokevirtual 182, 3) := by decide +kernel
theorem dX9_lay_75 : decode cX9_lay 75 = .ok (.iload_n 3, 1) := by decide +kernel
theorem dX9_lay_76 : decode cX9_lay 76 = .ok (.bipush (-4), 2) := by decide +kernel
theorem dX9_lay_78 : decode cX9_lay 78 = .ok (.if_icmp .eq 14, 3) := by decide +kernel
theorem dX9_lay_81 : decode cX9_lay 81 = .ok (.aload_n 0, 1) := by decide +kernel
theorem dX9_lay_82 : decode cX9_lay 82 = .ok (.getfield 7, 3) := by decide +kernel
theorem dX9_lay_85 : decode cX9_lay 85 = .ok (.iconst 3, 1) := by decide +kernel
theorem dX9_lay_86 : decode cX9_lay 86 = .ok (.iaload, 1) := by decide +kernel
theorem dX9_lay_87 : decode cX9_lay 87 = .ok (.iload 4, 2) := by decide +kernel
theorem dX9_lay_89 : decode cX9_lay 89 = .ok (.if_icmp .le 7, 3) := by decide +kernel
theorem dX9_lay_92 : decode cX9_lay 92 = .ok (.iconst 1, 1) := by decide +kernel
theorem dX9_lay_93 : decode cX9_lay 93 = .ok (.goto 4, 3) := by decide +kernel
theorem dX9_lay_96 : decode cX9_lay 96 = .ok (.iconst 0, 1) := by decide +kernel
theorem dX9_lay_97 : decode cX9_lay 97 = .ok (.istore 6, 2) := by decide +kernel
theorem dX9_lay_99 : decode cX9_lay 99 = .ok (.iload 6, 2) := by decide +kernel
theorem dX9_lay_101 : decode cX9_lay 101 = .ok (.ifCond .eq 8, 3) := by decide +kernel
theorem dX9_lay_104 : decode cX9_lay 104 = .ok (.iload 5, 2) := by decide +kernel
theorem dX9_lay_106 : decode cX9_lay 106 = .ok (.goto 4, 3) := by decide +kernel
theorem dX9_lay_109 : decode cX9_lay 109 = .ok (.iload_n 3, 1) := by decide +kernel
theorem dX9_lay_110 : decode cX9_lay 110 = .ok (.istore_n 3, 1) := by decide +kernel
theorem dX9_lay_111 : decode cX9_lay 111 = .ok (.iload 6, 2) := by decide +kernel
theorem dX9_lay_113 : decode cX9_lay 113 = .ok (.ifCond .eq 12, 3) := by decide +kernel
theorem dX9_lay_116 : decode cX9_lay 116 = .ok (.aload_n 0, 1) := by decide +kernel
theorem dX9_lay_117 : decode cX9_lay 117 = .ok (.getfield 7, 3) := by decide +kernel
theorem dX9_lay_120 : decode cX9_lay 120 = .ok (.iconst 3, 1) := by decide +kernel
theorem dX9_lay_121 : decode cX9_lay 121 = .ok (.iaload, 1) := by decide +kernel
theorem dX9_lay_122 : decode cX9_lay 122 = .ok (.goto 5, 3) := by decide +kernel
theorem dX9_lay_125 : decode cX9_lay 125 = .ok (.iload 4, 2) := by decide +kernel
theorem dX9_lay_127 : decode cX9_lay 127 = .ok (.istore 4, 2) := by decide +kernel
theorem dX9_lay_129 : decode cX9_lay 129 = .ok (.aload_n 0, 1) := by decide +kernel
theorem dX9_lay_130 : decode cX9_lay 130 = .ok (.invokevirtual 185, 3) := by decide +kernel
theorem dX9_lay_133 : decode cX9_lay 133 = .ok (.iinc 5 1, 3) := by decide +kernel
theorem dX9_lay_136 : decode cX9_lay 136 = .ok (.goto (-91), 3) := by decide +kernel
theorem dX9_lay_139 : decode cX9_lay 139 = .ok (.iload_n 2, 1) := by decide +kernel
theorem dX9_lay_140 : decode cX9_lay 140 = .ok (.ifCond .ne 7, 3) := by decide +kernel
theorem dX9_lay_143 : decode cX9_lay 143 = .ok (.iload_n 3, 1) := by decide +kernel
theorem dX9_lay_144 : decode cX9_lay 144 = .ok (.goto 5, 3) := by decide +kernel
theorem dX9_lay_147 : decode cX9_lay 147 = .ok (.iload 4, 2) := by decide +kernel
theorem dX9_lay_149 : decode cX9_lay 149 = .ok (.ireturn, 1) := by decide +kernel
theorem dX9_many_0 : decode cX9_many 0 = .ok (.iconst 0, 1) := by decide +kernel
theorem dX9_many_1 : decode cX9_many 1 = .ok (.istore_n 1, 1) := by decide +kernel
theorem dX9_many_2 : decode cX9_many 2 = .ok (.iload_n 0, 1) := by decide +kernel
theorem dX9_many_3 : decode cX9_many 3 = .ok (.istore_n 2, 1) := by decide +kernel
theorem dX9_many_4 : decode cX9_many 4 = .ok (.iload_n 2, 1) := by decide +kernel
theorem dX9_many_5 : decode cX9_many 5 = .ok (.ifCond .eq 15, 3) := by decide +kernel
theorem dX9_many_8 : decode cX9_many 8 = .ok (.iinc 1 1, 3) := by decide +kernel
theorem dX9_many_11 : decode cX9_many 11 = .ok (.iload_n 2, 1) := by decide +kernel
theorem dX9_many_12 : decode cX9_many 12 = .ok (.iload_n 2, 1) := by decide +kernel
theorem dX9_many_13 : decode cX9_many 13 = .ok (.iconst 1, 1) := by decide +kernel
theorem dX9_many_14 : decode cX9_many 14 = .ok (.isub, 1) := by decide +kernel
theorem dX9_many_15 : decode cX9_many 15 = .ok (.iand, 1) := by decide +kernel
theorem dX9_many_16 : decode cX9_many 16 = .ok (.istore_n 2, 1) := by decide +kernel
theorem dX9_many_17 : decode cX9_many 17 = .ok (.goto (-13), 3) := by decide +kernel
theorem dX9_many_20 : decode cX9_many 20 = .ok (.iload_n 1, 1) := by decide +kernel
theorem dX9_many_21 : decode cX9_many 21 = .ok (.ireturn, 1) := by decide +kernel
set_option maxRecDepth 20000 in
theorem ggX9_spare_X9_isThing : GoodIn wsX9_spare wsX9_isThing := goodIn_r _ [6, 1, 7, 8, 5, 9, 65, 66, 67, 68, 69, 70, 71, 72, 73, 74, 75, 76, 77, 78, 79, 80, 81, 82, 83, 84] (by decide +kernel) (by decide +kernel)
set_option maxRecDepth 20000 in
theorem gX9_spare_X9_isThing : GoodIn wsX9_spare (wsV RX9 79 RX9 yX9_isThing wsX9_isThing) := goodIn_app (goodIn_of _ (by decide +kernel)) ggX9_spare_X9_isThing
set_option maxRecDepth 20000 in
theorem ggX9_spare_X9_in : GoodIn wsX9_spare wsX9_in := goodIn_r _ [9] (by decide +kernel) (by decide +kernel)
set_option maxRecDepth 20000 in
theorem gX9_spare_X9_in : GoodIn wsX9_spare (va_wsS RX9 51 yX9_in wsX9_in) := goodIn_app (goodIn_of _ (by decide +kernel)) ggX9_spare_X9_in
set_option maxRecDepth 20000 in
theorem ggX9_spare_X9_where : GoodIn wsX9_spare wsX9_where := goodIn_r _ [13, 1, 65, 66, 67, 68, 69, 70, 71, 72, 73, 74, 75, 76, 77, 78, 79, 80, 81, 82, 83, 84] (by decide +kernel) (by decide +kernel)
set_option maxRecDepth 20000 in
theorem gX9_spare_X9_where : GoodIn wsX9_spare (wsV RX9 55 RX9 yX9_where wsX9_where) := goodIn_app (goodIn_of _ (by decide +kernel)) ggX9_spare_X9_where
set_option maxRecDepth 20000 in
theorem ggX9_spare_X9_asides : GoodIn wsX9_spare wsX9_asides := goodIn_r _ [17, 18, 1, 65, 66, 67, 68, 69, 70, 71, 72, 73, 74, 75, 76, 77, 78, 79, 80, 81, 82, 83, 84] (by decide +kernel) (by decide +kernel)
set_option maxRecDepth 20000 in
theorem gX9_spare_X9_asides : GoodIn wsX9_spare (wsV RX9 179 RX9 yX9_asides wsX9_asides) := goodIn_app (goodIn_of _ (by decide +kernel)) ggX9_spare_X9_asides
set_option maxRecDepth 20000 in
theorem ggX9_spare_X9_many : GoodIn wsX9_spare wsX9_many := goodIn_r _ [21] (by decide +kernel) (by decide +kernel)
set_option maxRecDepth 20000 in
theorem gX9_spare_X9_many : GoodIn wsX9_spare (va_wsS RX9 188 yX9_many wsX9_many) := goodIn_app (goodIn_of _ (by decide +kernel)) ggX9_spare_X9_many
set_option maxRecDepth 20000 in
theorem ggX9_spare_X9_rolls : GoodIn wsX9_spare wsX9_rolls := goodIn_r _ [25, 26, 1, 27, 28, 29, 30, 5, 31, 32, 33, 34, 35, 36, 37, 38, 39, 40, 41, 42, 43, 44, 10, 11, 12, 13, 45, 46, 47, 48, 49, 50, 51, 52, 53, 54, 55, 56, 57, 58, 59, 60, 65, 66, 67, 68, 69, 70, 71, 72, 73, 74, 75, 76, 77, 78, 79, 80, 81, 82, 83, 84] (by decide +kernel) (by decide +kernel)
set_option maxRecDepth 20000 in
theorem gX9_spare_X9_rolls : GoodIn wsX9_spare (wsV RX9 182 RX9 yX9_rolls wsX9_rolls) := goodIn_app (goodIn_of _ (by decide +kernel)) ggX9_spare_X9_rolls
set_option maxRecDepth 20000 in
theorem ggX9_spare_X9_backs : GoodIn wsX9_spare wsX9_backs := goodIn_r _ [64, 1, 18, 65, 66, 67, 68, 69, 70, 71, 72, 73, 74, 75, 76, 77, 78, 79, 80, 81, 82, 83, 84] (by decide +kernel) (by decide +kernel)
set_option maxRecDepth 20000 in
theorem gX9_spare_X9_backs : GoodIn wsX9_spare (wsV RX9 185 RX9 yX9_backs wsX9_backs) := goodIn_app (goodIn_of _ (by decide +kernel)) ggX9_spare_X9_backs
theorem dX9_spare_0 : decode cX9_spare 0 = .ok (.aload_n 0, 1) := by decide +kernel
theorem dX9_spare_1 : decode cX9_spare 1 = .ok (.iload_n 1, 1) := by decide +kernel
theorem dX9_spare_2 : decode cX9_spare 2 = .ok (.invokevirtual 79, 3) := by decide +kernel
theorem dX9_spare_5 : decode cX9_spare 5 = .ok (.ifCond .eq 13, 3) := by decide +kernel
theorem dX9_spare_8 : decode cX9_spare 8 = .ok (.iload_n 2, 1) := by decide +kernel
theorem dX9_spare_9 : decode cX9_spare 9 = .ok (.i2l, 1) := by decide +kernel
theorem dX9_spare_10 : decode cX9_spare 10 = .ok (.lconst 0, 1) := by decide +kernel
theorem dX9_spare_11 : decode cX9_spare 11 = .ok (.lconst 1, 1) := by decide +kernel
theorem dX9_spare_12 : decode cX9_spare 12 = .ok (.invokestatic 51, 3) := by decide +kernel
theorem dX9_spare_15 : decode cX9_spare 15 = .ok (.ifCond .ne 5, 3) := by decide +kernel
theorem dX9_spare_18 : decode cX9_spare 18 = .ok (.iconst (-1), 1) := by decide +kernel
theorem dX9_spare_19 : decode cX9_spare 19 = .ok (.ireturn, 1) := by decide +kernel
theorem dX9_spare_20 : decode cX9_spare 20 = .ok (.iconst 0, 1) := by decide +kernel
theorem dX9_spare_21 : decode cX9_spare 21 = .ok (.istore_n 3, 1) := by decide +kernel
theorem dX9_spare_22 : decode cX9_spare 22 = .ok (.iconst 0, 1) := by decide +kernel
theorem dX9_spare_23 : decode cX9_spare 23 = .ok (.istore 4, 2) := by decide +kernel
theorem dX9_spare_25 : decode cX9_spare 25 = .ok (.iload 4, 2) := by decide +kernel
theorem dX9_spare_27 : decode cX9_spare 27 = .ok (.aload_n 0, 1) := by decide +kernel
theorem dX9_spare_28 : decode cX9_spare 28 = .ok (.getfield 7, 3) := by decide +kernel
theorem dX9_spare_31 : decode cX9_spare 31 = .ok (.iconst 1, 1) := by decide +kernel
theorem dX9_spare_32 : decode cX9_spare 32 = .ok (.iaload, 1) := by decide +kernel
theorem dX9_spare_33 : decode cX9_spare 33 = .ok (.if_icmp .ge 35, 3) := by decide +kernel
theorem dX9_spare_36 : decode cX9_spare 36 = .ok (.iload_n 3, 1) := by decide +kernel
theorem dX9_spare_37 : decode cX9_spare 37 = .ok (.iload 4, 2) := by decide +kernel
theorem dX9_spare_39 : decode cX9_spare 39 = .ok (.iload_n 1, 1) := by decide +kernel
theorem dX9_spare_40 : decode cX9_spare 40 = .ok (.if_icmp .eq 19, 3) := by decide +kernel
theorem dX9_spare_43 : decode cX9_spare 43 = .ok (.aload_n 0, 1) := by decide +kernel
theorem dX9_spare_44 : decode cX9_spare 44 = .ok (.iload 4, 2) := by decide +kernel
theorem dX9_spare_46 : decode cX9_spare 46 = .ok (.invokevirtual 55, 3) := by decide +kernel
theorem dX9_spare_49 : decode cX9_spare 49 = .ok (.ifCond .lt 10, 3) := by decide +kernel
theorem dX9_spare_52 : decode cX9_spare 52 = .ok (.iconst 1, 1) := by decide +kernel
theorem dX9_spare_53 : decode cX9_spare 53 = .ok (.iload 4, 2) := by decide +kernel
theorem dX9_spare_55 : decode cX9_spare 55 = .ok (.ishl, 1) := by decide +kernel
theorem dX9_spare_56 : decode cX9_spare 56 = .ok (.goto 4, 3) := by decide +kernel
theorem dX9_spare_59 : decode cX9_spare 59 = .ok (.iconst 0, 1) := by decide +kernel
theorem dX9_spare_60 : decode cX9_spare 60 = .ok (.ior, 1) := by decide +kernel
theorem dX9_spare_61 : decode cX9_spare 61 = .ok (.istore_n 3, 1) := by decide +kernel
theorem dX9_spare_62 : decode cX9_spare 62 = .ok (.iinc 4 1, 3) := by decide +kernel
theorem dX9_spare_65 : decode cX9_spare 65 = .ok (.goto (-40), 3) := by decide +kernel
theorem dX9_spare_68 : decode cX9_spare 68 = .ok (.bipush (-4), 2) := by decide +kernel
theorem dX9_spare_70 : decode cX9_spare 70 = .ok (.istore 4, 2) := by decide +kernel
theorem dX9_spare_72 : decode cX9_spare 72 = .ok (.aload_n 0, 1) := by decide +kernel
theorem dX9_spare_73 : decode cX9_spare 73 = .ok (.invokevirtual 179, 3) := by decide +kernel
theorem dX9_spare_76 : decode cX9_spare 76 = .ok (.iconst 0, 1) := by decide +kernel
theorem dX9_spare_77 : decode cX9_spare 77 = .ok (.istore 5, 2) := by decide +kernel
theorem dX9_spare_79 : decode cX9_spare 79 = .ok (.iload 5, 2) := by decide +kernel
theorem dX9_spare_81 : decode cX9_spare 81 = .ok (.iload_n 3, 1) := by decide +kernel
theorem dX9_spare_82 : decode cX9_spare 82 = .ok (.if_icmp .gt 120, 3) := by decide +kernel
theorem dX9_spare_85 : decode cX9_spare 85 = .ok (.iload 5, 2) := by decide +kernel
theorem dX9_spare_87 : decode cX9_spare 87 = .ok (.iload_n 3, 1) := by decide +kernel
theorem dX9_spare_88 : decode cX9_spare 88 = .ok (.iconst (-1), 1) := by decide +kernel
theorem dX9_spare_89 : decode cX9_spare 89 = .ok (.ixor, 1) := by decide +kernel
theorem dX9_spare_90 : decode cX9_spare 90 = .ok (.iand, 1) := by decide +kernel
theorem dX9_spare_91 : decode cX9_spare 91 = .ok (.ifCond .ne 105, 3) := by decide +kernel
theorem dX9_spare_94 : decode cX9_spare 94 = .ok (.iload 4, 2) := by decide +kernel
theorem dX9_spare_96 : decode cX9_spare 96 = .ok (.bipush (-4), 2) := by decide +kernel
theorem dX9_spare_98 : decode cX9_spare 98 = .ok (.if_icmp .eq 16, 3) := by decide +kernel
theorem dX9_spare_101 : decode cX9_spare 101 = .ok (.iload 5, 2) := by decide +kernel
theorem dX9_spare_103 : decode cX9_spare 103 = .ok (.invokestatic 188, 3) := by decide +kernel
theorem dX9_spare_106 : decode cX9_spare 106 = .ok (.iload 4, 2) := by decide +kernel
theorem dX9_spare_108 : decode cX9_spare 108 = .ok (.invokestatic 188, 3) := by decide +kernel
theorem dX9_spare_111 : decode cX9_spare 111 = .ok (.if_icmp .ge 85, 3) := by decide +kernel
theorem dX9_spare_114 : decode cX9_spare 114 = .ok (.iconst 0, 1) := by decide +kernel
theorem dX9_spare_115 : decode cX9_spare 115 = .ok (.istore 6, 2) := by decide +kernel
theorem dX9_spare_117 : decode cX9_spare 117 = .ok (.iload 6, 2) := by decide +kernel
theorem dX9_spare_119 : decode cX9_spare 119 = .ok (.aload_n 0, 1) := by decide +kernel
theorem dX9_spare_120 : decode cX9_spare 120 = .ok (.getfield 7, 3) := by decide +kernel
theorem dX9_spare_123 : decode cX9_spare 123 = .ok (.iconst 1, 1) := by decide +kernel
theorem dX9_spare_124 : decode cX9_spare 124 = .ok (.iaload, 1) := by decide +kernel
theorem dX9_spare_125 : decode cX9_spare 125 = .ok (.if_icmp .ge 45, 3) := by decide +kernel
theorem dX9_spare_128 : decode cX9_spare 128 = .ok (.aload_n 0, 1) := by decide +kernel
theorem dX9_spare_129 : decode cX9_spare 129 = .ok (.getfield 7, 3) := by decide +kernel
theorem dX9_spare_132 : decode cX9_spare 132 = .ok (.bipush 56, 2) := by decide +kernel
theorem dX9_spare_134 : decode cX9_spare 134 = .ok (.iconst 3, 1) := by decide +kernel
theorem dX9_spare_135 : decode cX9_spare 135 = .ok (.iload 6, 2) := by decide +kernel
theorem dX9_spare_137 : decode cX9_spare 137 = .ok (.imul, 1) := by decide +kernel
theorem dX9_spare_138 : decode cX9_spare 138 = .ok (.iadd, 1) := by decide +kernel
theorem dX9_spare_139 : decode cX9_spare 139 = .ok (.iconst 2, 1) := by decide +kernel
theorem dX9_spare_140 : decode cX9_spare 140 = .ok (.iadd, 1) := by decide +kernel
theorem dX9_spare_141 : decode cX9_spare 141 = .ok (.iload 5, 2) := by decide +kernel
theorem dX9_spare_143 : decode cX9_spare 143 = .ok (.iload 6, 2) := by decide +kernel
theorem dX9_spare_145 : decode cX9_spare 145 = .ok (.ishr, 1) := by decide +kernel
theorem dX9_spare_146 : decode cX9_spare 146 = .ok (.iconst 1, 1) := by decide +kernel
theorem dX9_spare_147 : decode cX9_spare 147 = .ok (.iand, 1) := by decide +kernel
theorem dX9_spare_148 : decode cX9_spare 148 = .ok (.iconst 1, 1) := by decide +kernel
theorem dX9_spare_149 : decode cX9_spare 149 = .ok (.if_icmp .ne 8, 3) := by decide +kernel
theorem dX9_spare_152 : decode cX9_spare 152 = .ok (.bipush (-2), 2) := by decide +kernel
theorem dX9_spare_154 : decode cX9_spare 154 = .ok (.goto 9, 3) := by decide +kernel
theorem dX9_spare_157 : decode cX9_spare 157 = .ok (.aload_n 0, 1) := by decide +kernel
theorem dX9_spare_158 : decode cX9_spare 158 = .ok (.iload 6, 2) := by decide +kernel
theorem dX9_spare_160 : decode cX9_spare 160 = .ok (.invokevirtual 55, 3) := by decide +kernel
theorem dX9_spare_163 : decode cX9_spare 163 = .ok (.iastore, 1) := by decide +kernel
theorem dX9_spare_164 : decode cX9_spare 164 = .ok (.iinc 6 1, 3) := by decide +kernel
theorem dX9_spare_167 : decode cX9_spare 167 = .ok (.goto (-50), 3) := by decide +kernel
theorem dX9_spare_170 : decode cX9_spare 170 = .ok (.aload_n 0, 1) := by decide +kernel
theorem dX9_spare_171 : decode cX9_spare 171 = .ok (.invokevirtual 182, 3) := by decide +kernel
theorem dX9_spare_174 : decode cX9_spare 174 = .ok (.aload_n 0, 1) := by decide +kernel
theorem dX9_spare_175 : decode cX9_spare 175 = .ok (.iload_n 1, 1) := by decide +kernel
theorem dX9_spare_176 : decode cX9_spare 176 = .ok (.invokevirtual 55, 3) := by decide +kernel
theorem dX9_spare_179 : decode cX9_spare 179 = .ok (.iconst (-1), 1) := by decide +kernel
theorem dX9_spare_180 : decode cX9_spare 180 = .ok (.if_icmp .eq 8, 3) := by decide +kernel
theorem dX9_spare_183 : decode cX9_spare 183 = .ok (.iload 5, 2) := by decide +kernel
theorem dX9_spare_185 : decode cX9_spare 185 = .ok (.goto 5, 3) := by decide +kernel
theorem dX9_spare_188 : decode cX9_spare 188 = .ok (.iload 4, 2) := by decide +kernel
theorem dX9_spare_190 : decode cX9_spare 190 = .ok (.istore 4, 2) := by decide +kernel
theorem dX9_spare_192 : decode cX9_spare 192 = .ok (.aload_n 0, 1) := by decide +kernel
theorem dX9_spare_193 : decode cX9_spare 193 = .ok (.invokevirtual 185, 3) := by decide +kernel
theorem dX9_spare_196 : decode cX9_spare 196 = .ok (.iinc 5 1, 3) := by decide +kernel
theorem dX9_spare_199 : decode cX9_spare 199 = .ok (.goto (-120), 3) := by decide +kernel
theorem dX9_spare_202 : decode cX9_spare 202 = .ok (.iload_n 2, 1) := by decide +kernel
theorem dX9_spare_203 : decode cX9_spare 203 = .ok (.iconst 1, 1) := by decide +kernel
theorem dX9_spare_204 : decode cX9_spare 204 = .ok (.if_icmp .eq 10, 3) := by decide +kernel
theorem dX9_spare_207 : decode cX9_spare 207 = .ok (.iload 4, 2) := by decide +kernel
theorem dX9_spare_209 : decode cX9_spare 209 = .ok (.bipush (-4), 2) := by decide +kernel
theorem dX9_spare_211 : decode cX9_spare 211 = .ok (.if_icmp .ne 8, 3) := by decide +kernel
theorem dX9_spare_214 : decode cX9_spare 214 = .ok (.iload 4, 2) := by decide +kernel
theorem dX9_spare_216 : decode cX9_spare 216 = .ok (.goto 8, 3) := by decide +kernel
theorem dX9_spare_219 : decode cX9_spare 219 = .ok (.iload 4, 2) := by decide +kernel
theorem dX9_spare_221 : decode cX9_spare 221 = .ok (.invokestatic 188, 3) := by decide +kernel
theorem dX9_spare_224 : decode cX9_spare 224 = .ok (.ireturn, 1) := by decide +kernel
theorem dX9_image_0 : decode cX9_image 0 = .ok (.iconst 0, 1) := by decide +kernel
theorem dX9_image_1 : decode cX9_image 1 = .ok (.istore_n 1, 1) := by decide +kernel
theorem dX9_image_2 : decode cX9_image 2 = .ok (.iload_n 1, 1) := by decide +kernel
theorem dX9_image_3 : decode cX9_image 3 = .ok (.bipush 88, 2) := by decide +kernel
theorem dX9_image_5 : decode cX9_image 5 = .ok (.if_icmp .ge 21, 3) := by decide +kernel
theorem dX9_image_8 : decode cX9_image 8 = .ok (.aload_n 0, 1) := by decide +kernel
theorem dX9_image_9 : decode cX9_image 9 = .ok (.getfield 32, 3) := by decide +kernel
theorem dX9_image_12 : decode cX9_image 12 = .ok (.iload_n 1, 1) := by decide +kernel
theorem dX9_image_13 : decode cX9_image 13 = .ok (.aload_n 0, 1) := by decide +kernel
theorem dX9_image_14 : decode cX9_image 14 = .ok (.getfield 7, 3) := by decide +kernel
theorem dX9_image_17 : decode cX9_image 17 = .ok (.iload_n 1, 1) := by decide +kernel
theorem dX9_image_18 : decode cX9_image 18 = .ok (.iaload, 1) := by decide +kernel
theorem dX9_image_19 : decode cX9_image 19 = .ok (.iastore, 1) := by decide +kernel
theorem dX9_image_20 : decode cX9_image 20 = .ok (.iinc 1 1, 3) := by decide +kernel
theorem dX9_image_23 : decode cX9_image 23 = .ok (.goto (-21), 3) := by decide +kernel
theorem dX9_image_26 : decode cX9_image 26 = .ok (.iconst 0, 1) := by decide +kernel
theorem dX9_image_27 : decode cX9_image 27 = .ok (.istore_n 1, 1) := by decide +kernel
theorem dX9_image_28 : decode cX9_image 28 = .ok (.iload_n 1, 1) := by decide +kernel
theorem dX9_image_29 : decode cX9_image 29 = .ok (.sipush 368, 3) := by decide +kernel
theorem dX9_image_32 : decode cX9_image 32 = .ok (.if_icmp .ge 24, 3) := by decide +kernel
theorem dX9_image_35 : decode cX9_image 35 = .ok (.aload_n 0, 1) := by decide +kernel
theorem dX9_image_36 : decode cX9_image 36 = .ok (.getfield 32, 3) := by decide +kernel
theorem dX9_image_39 : decode cX9_image 39 = .ok (.bipush 88, 2) := by decide +kernel
theorem dX9_image_41 : decode cX9_image 41 = .ok (.iload_n 1, 1) := by decide +kernel
theorem dX9_image_42 : decode cX9_image 42 = .ok (.iadd, 1) := by decide +kernel
theorem dX9_image_43 : decode cX9_image 43 = .ok (.aload_n 0, 1) := by decide +kernel
theorem dX9_image_44 : decode cX9_image 44 = .ok (.getfield 26, 3) := by decide +kernel
theorem dX9_image_47 : decode cX9_image 47 = .ok (.iload_n 1, 1) := by decide +kernel
theorem dX9_image_48 : decode cX9_image 48 = .ok (.iaload, 1) := by decide +kernel
theorem dX9_image_49 : decode cX9_image 49 = .ok (.iastore, 1) := by decide +kernel
theorem dX9_image_50 : decode cX9_image 50 = .ok (.iinc 1 1, 3) := by decide +kernel
theorem dX9_image_53 : decode cX9_image 53 = .ok (.goto (-25), 3) := by decide +kernel
theorem dX9_image_56 : decode cX9_image 56 = .ok (.aload_n 0, 1) := by decide +kernel
theorem dX9_image_57 : decode cX9_image 57 = .ok (.aload_n 0, 1) := by decide +kernel
theorem dX9_image_58 : decode cX9_image 58 = .ok (.getfield 70, 3) := by decide +kernel
theorem dX9_image_61 : decode cX9_image 61 = .ok (.putfield 191, 3) := by decide +kernel
theorem dX9_image_64 : decode cX9_image 64 = .ok (.aload_n 0, 1) := by decide +kernel
theorem dX9_image_65 : decode cX9_image 65 = .ok (.iconst 1, 1) := by decide +kernel
theorem dX9_image_66 : decode cX9_image 66 = .ok (.putfield 194, 3) := by decide +kernel
theorem dX9_image_69 : decode cX9_image 69 = .ok (.iconst 1, 1) := by decide +kernel
theorem dX9_image_70 : decode cX9_image 70 = .ok (.ireturn, 1) := by decide +kernel
theorem dX9_restore_0 : decode cX9_restore 0 = .ok (.aload_n 0, 1) := by decide +kernel
theorem dX9_restore_1 : decode cX9_restore 1 = .ok (.getfield 194, 3) := by decide +kernel
theorem dX9_restore_4 : decode cX9_restore 4 = .ok (.ifCond .ne 6, 3) := by decide +kernel
theorem dX9_restore_7 : decode cX9_restore 7 = .ok (.bipush (-4), 2) := by decide +kernel
theorem dX9_restore_9 : decode cX9_restore 9 = .ok (.ireturn, 1) := by decide +kernel
theorem dX9_restore_10 : decode cX9_restore 10 = .ok (.iconst 0, 1) := by decide +kernel
theorem dX9_restore_11 : decode cX9_restore 11 = .ok (.istore_n 1, 1) := by decide +kernel
theorem dX9_restore_12 : decode cX9_restore 12 = .ok (.iload_n 1, 1) := by decide +kernel
theorem dX9_restore_13 : decode cX9_restore 13 = .ok (.bipush 88, 2) := by decide +kernel
theorem dX9_restore_15 : decode cX9_restore 15 = .ok (.if_icmp .ge 21, 3) := by decide +kernel
theorem dX9_restore_18 : decode cX9_restore 18 = .ok (.aload_n 0, 1) := by decide +kernel
theorem dX9_restore_19 : decode cX9_restore 19 = .ok (.getfield 7, 3) := by decide +kernel
theorem dX9_restore_22 : decode cX9_restore 22 = .ok (.iload_n 1, 1) := by decide +kernel
theorem dX9_restore_23 : decode cX9_restore 23 = .ok (.aload_n 0, 1) := by decide +kernel
theorem dX9_restore_24 : decode cX9_restore 24 = .ok (.getfield 32, 3) := by decide +kernel
theorem dX9_restore_27 : decode cX9_restore 27 = .ok (.iload_n 1, 1) := by decide +kernel
theorem dX9_restore_28 : decode cX9_restore 28 = .ok (.iaload, 1) := by decide +kernel
theorem dX9_restore_29 : decode cX9_restore 29 = .ok (.iastore, 1) := by decide +kernel
theorem dX9_restore_30 : decode cX9_restore 30 = .ok (.iinc 1 1, 3) := by decide +kernel
theorem dX9_restore_33 : decode cX9_restore 33 = .ok (.goto (-21), 3) := by decide +kernel
theorem dX9_restore_36 : decode cX9_restore 36 = .ok (.iconst 0, 1) := by decide +kernel
theorem dX9_restore_37 : decode cX9_restore 37 = .ok (.istore_n 1, 1) := by decide +kernel
theorem dX9_restore_38 : decode cX9_restore 38 = .ok (.iload_n 1, 1) := by decide +kernel
theorem dX9_restore_39 : decode cX9_restore 39 = .ok (.sipush 368, 3) := by decide +kernel
theorem dX9_restore_42 : decode cX9_restore 42 = .ok (.if_icmp .ge 24, 3) := by decide +kernel
theorem dX9_restore_45 : decode cX9_restore 45 = .ok (.aload_n 0, 1) := by decide +kernel
theorem dX9_restore_46 : decode cX9_restore 46 = .ok (.getfield 26, 3) := by decide +kernel
theorem dX9_restore_49 : decode cX9_restore 49 = .ok (.iload_n 1, 1) := by decide +kernel
theorem dX9_restore_50 : decode cX9_restore 50 = .ok (.aload_n 0, 1) := by decide +kernel
theorem dX9_restore_51 : decode cX9_restore 51 = .ok (.getfield 32, 3) := by decide +kernel
theorem dX9_restore_54 : decode cX9_restore 54 = .ok (.bipush 88, 2) := by decide +kernel
theorem dX9_restore_56 : decode cX9_restore 56 = .ok (.iload_n 1, 1) := by decide +kernel
theorem dX9_restore_57 : decode cX9_restore 57 = .ok (.iadd, 1) := by decide +kernel
theorem dX9_restore_58 : decode cX9_restore 58 = .ok (.iaload, 1) := by decide +kernel
theorem dX9_restore_59 : decode cX9_restore 59 = .ok (.iastore, 1) := by decide +kernel
theorem dX9_restore_60 : decode cX9_restore 60 = .ok (.iinc 1 1, 3) := by decide +kernel
theorem dX9_restore_63 : decode cX9_restore 63 = .ok (.goto (-25), 3) := by decide +kernel
theorem dX9_restore_66 : decode cX9_restore 66 = .ok (.aload_n 0, 1) := by decide +kernel
theorem dX9_restore_67 : decode cX9_restore 67 = .ok (.aload_n 0, 1) := by decide +kernel
theorem dX9_restore_68 : decode cX9_restore 68 = .ok (.getfield 191, 3) := by decide +kernel
theorem dX9_restore_71 : decode cX9_restore 71 = .ok (.putfield 70, 3) := by decide +kernel
theorem dX9_restore_74 : decode cX9_restore 74 = .ok (.iconst 1, 1) := by decide +kernel
theorem dX9_restore_75 : decode cX9_restore 75 = .ok (.ireturn, 1) := by decide +kernel
set_option maxRecDepth 20000 in
theorem ggX9_isSheet_X9_in : GoodIn wsX9_isSheet wsX9_in := goodIn_r _ [5] (by decide +kernel) (by decide +kernel)
set_option maxRecDepth 20000 in
theorem gX9_isSheet_X9_in : GoodIn wsX9_isSheet (va_wsS RX9 51 yX9_in wsX9_in) := goodIn_app (goodIn_of _ (by decide +kernel)) ggX9_isSheet_X9_in
theorem dX9_isSheet_0 : decode cX9_isSheet 0 = .ok (.iload_n 0, 1) := by decide +kernel
theorem dX9_isSheet_1 : decode cX9_isSheet 1 = .ok (.i2l, 1) := by decide +kernel
theorem dX9_isSheet_2 : decode cX9_isSheet 2 = .ok (.lconst 0, 1) := by decide +kernel
theorem dX9_isSheet_3 : decode cX9_isSheet 3 = .ok (.ldc2_w 197, 3) := by decide +kernel
theorem dX9_isSheet_6 : decode cX9_isSheet 6 = .ok (.invokestatic 51, 3) := by decide +kernel
theorem dX9_isSheet_9 : decode cX9_isSheet 9 = .ok (.ireturn, 1) := by decide +kernel
set_option maxRecDepth 20000 in
theorem ggX9_isLane_X9_in : GoodIn wsX9_isLane wsX9_in := goodIn_r _ [5] (by decide +kernel) (by decide +kernel)
set_option maxRecDepth 20000 in
theorem gX9_isLane_X9_in : GoodIn wsX9_isLane (va_wsS RX9 51 yX9_in wsX9_in) := goodIn_app (goodIn_of _ (by decide +kernel)) ggX9_isLane_X9_in
theorem dX9_isLane_0 : decode cX9_isLane 0 = .ok (.iload_n 0, 1) := by decide +kernel
theorem dX9_isLane_1 : decode cX9_isLane 1 = .ok (.i2l, 1) := by decide +kernel
theorem dX9_isLane_2 : decode cX9_isLane 2 = .ok (.lconst 0, 1) := by decide +kernel
theorem dX9_isLane_3 : decode cX9_isLane 3 = .ok (.ldc2_w 197, 3) := by decide +kernel
theorem dX9_isLane_6 : decode cX9_isLane 6 = .ok (.invokestatic 51, 3) := by decide +kernel
theorem dX9_isLane_9 : decode cX9_isLane 9 = .ok (.ireturn, 1) := by decide +kernel
theorem dX9_why_0 : decode cX9_why 0 = .ok (.aload_n 0, 1) := by decide +kernel
theorem dX9_why_1 : decode cX9_why 1 = .ok (.getfield 35, 3) := by decide +kernel
theorem dX9_why_4 : decode cX9_why 4 = .ok (.iload_n 1, 1) := by decide +kernel
theorem dX9_why_5 : decode cX9_why 5 = .ok (.iaload, 1) := by decide +kernel
theorem dX9_why_6 : decode cX9_why 6 = .ok (.ifCond .ge 6, 3) := by decide +kernel
theorem dX9_why_9 : decode cX9_why 9 = .ok (.bipush (-11), 2) := by decide +kernel
theorem dX9_why_11 : decode cX9_why 11 = .ok (.ireturn, 1) := by decide +kernel
theorem dX9_why_12 : decode cX9_why 12 = .ok (.aload_n 0, 1) := by decide +kernel
theorem dX9_why_13 : decode cX9_why 13 = .ok (.getfield 35, 3) := by decide +kernel
theorem dX9_why_16 : decode cX9_why 16 = .ok (.iload_n 1, 1) := by decide +kernel
theorem dX9_why_17 : decode cX9_why 17 = .ok (.iaload, 1) := by decide +kernel
theorem dX9_why_18 : decode cX9_why 18 = .ok (.iload_n 2, 1) := by decide +kernel
theorem dX9_why_19 : decode cX9_why 19 = .ok (.if_icmp .eq 6, 3) := by decide +kernel
theorem dX9_why_22 : decode cX9_why 22 = .ok (.bipush (-12), 2) := by decide +kernel
theorem dX9_why_24 : decode cX9_why 24 = .ok (.ireturn, 1) := by decide +kernel
theorem dX9_why_25 : decode cX9_why 25 = .ok (.iload_n 3, 1) := by decide +kernel
theorem dX9_why_26 : decode cX9_why 26 = .ok (.ifCond .lt 25, 3) := by decide +kernel
theorem dX9_why_29 : decode cX9_why 29 = .ok (.iload 4, 2) := by decide +kernel
theorem dX9_why_31 : decode cX9_why 31 = .ok (.ifCond .lt 20, 3) := by decide +kernel
theorem dX9_why_34 : decode cX9_why 34 = .ok (.iload_n 3, 1) := by decide +kernel
theorem dX9_why_35 : decode cX9_why 35 = .ok (.i2l, 1) := by decide +kernel
theorem dX9_why_36 : decode cX9_why 36 = .ok (.iload 4, 2) := by decide +kernel
theorem dX9_why_38 : decode cX9_why 38 = .ok (.i2l, 1) := by decide +kernel
theorem dX9_why_39 : decode cX9_why 39 = .ok (.ladd, 1) := by decide +kernel
theorem dX9_why_40 : decode cX9_why 40 = .ok (.aload_n 0, 1) := by decide +kernel
theorem dX9_why_41 : decode cX9_why 41 = .ok (.getfield 38, 3) := by decide +kernel
theorem dX9_why_44 : decode cX9_why 44 = .ok (.iload_n 1, 1) := by decide +kernel
theorem dX9_why_45 : decode cX9_why 45 = .ok (.iaload, 1) := by decide +kernel
theorem dX9_why_46 : decode cX9_why 46 = .ok (.i2l, 1) := by decide +kernel
theorem dX9_why_47 : decode cX9_why 47 = .ok (.lcmp, 1) := by decide +kernel
theorem dX9_why_48 : decode cX9_why 48 = .ok (.ifCond .le 8, 3) := by decide +kernel
theorem dX9_why_51 : decode cX9_why 51 = .ok (.bipush (-13), 2) := by decide +kernel
theorem dX9_why_53 : decode cX9_why 53 = .ok (.goto 4, 3) := by decide +kernel
theorem dX9_why_56 : decode cX9_why 56 = .ok (.iconst 0, 1) := by decide +kernel
theorem dX9_why_57 : decode cX9_why 57 = .ok (.ireturn, 1) := by decide +kernel
set_option maxRecDepth 20000 in
theorem ggX9_stepIfItGoes_X9_isAtRest : GoodIn wsX9_stepIfItGoes wsX9_isAtRest := goodIn_r _ [5, 6, 40, 41, 42, 43, 44, 45, 46, 47, 48, 49, 50, 51, 52, 53, 54, 55, 56, 57, 58, 59] (by decide +kernel) (by decide +kernel)
set_option maxRecDepth 20000 in
theorem gX9_stepIfItGoes_X9_isAtRest : GoodIn wsX9_stepIfItGoes (wsV RX9 153 RX9 yX9_isAtRest wsX9_isAtRest) := goodIn_app (goodIn_of _ (by decide +kernel)) ggX9_stepIfItGoes_X9_isAtRest
set_option maxRecDepth 20000 in
theorem ggX9_stepIfItGoes_X9_step : GoodIn wsX9_stepIfItGoes wsX9_step := goodIn_r _ [10, 6, 11, 12, 13, 14, 4, 15, 16, 17, 18, 19, 20, 21, 22, 23, 24, 25, 26, 27, 28, 29, 30, 31, 32, 33, 34, 35, 36, 37, 38, 39, 40, 41, 42, 43, 44, 45, 46, 47, 48, 49, 50, 51, 52, 53, 54, 55, 56, 57, 58, 59] (by decide +kernel) (by decide +kernel)
set_option maxRecDepth 20000 in
theorem gX9_stepIfItGoes_X9_step : GoodIn wsX9_stepIfItGoes (wsV RX9 157 RX9 yX9_step wsX9_step) := goodIn_app (goodIn_of _ (by decide +kernel)) ggX9_stepIfItGoes_X9_step
theorem dX9_stepIfItGoes_0 : decode cX9_stepIfItGoes 0 = .ok (.aload_n 0, 1) := by decide +kernel
theorem dX9_stepIfItGoes_1 : decode cX9_stepIfItGoes 1 = .ok (.invokevirtual 153, 3) := by decide +kernel
theorem dX9_stepIfItGoes_4 : decode cX9_stepIfItGoes 4 = .ok (.ifCond .ne 7, 3) := by decide +kernel
theorem dX9_stepIfItGoes_7 : decode cX9_stepIfItGoes 7 = .ok (.aload_n 0, 1) := by decide +kernel
theorem dX9_stepIfItGoes_8 : decode cX9_stepIfItGoes 8 = .ok (.invokevirtual 157, 3) := by decide +kernel
theorem dX9_stepIfItGoes_11 : decode cX9_stepIfItGoes 11 = .ok (.return_, 1) := by decide +kernel
set_option maxRecDepth 20000 in
theorem ggX9_seen_X9_in : GoodIn wsX9_seen wsX9_in := goodIn_r _ [8] (by decide +kernel) (by decide +kernel)
set_option maxRecDepth 20000 in
theorem gX9_seen_X9_in : GoodIn wsX9_seen (va_wsS RX9 51 yX9_in wsX9_in) := goodIn_app (goodIn_of _ (by decide +kernel)) ggX9_seen_X9_in
set_option maxRecDepth 20000 in
theorem ggX9_seen_X9_isSheet : GoodIn wsX9_seen wsX9_isSheet := goodIn_r _ [11, 12, 5, 6, 7, 8] (by decide +kernel) (by decide +kernel)
set_option maxRecDepth 20000 in
theorem gX9_seen_X9_isSheet : GoodIn wsX9_seen (va_wsS RX9 199 yX9_isSheet wsX9_isSheet) := goodIn_app (goodIn_of _ (by decide +kernel)) ggX9_seen_X9_isSheet
set_option maxRecDepth 20000 in
theorem ggX9_seen_X9_isLane : GoodIn wsX9_seen wsX9_isLane := goodIn_r _ [15, 12, 5, 6, 7, 8] (by decide +kernel) (by decide +kernel)
set_option maxRecDepth 20000 in
theorem gX9_seen_X9_isLane : GoodIn wsX9_seen (va_wsS RX9 202 yX9_isLane wsX9_isLane) := goodIn_app (goodIn_of _ (by decide +kernel)) ggX9_seen_X9_isLane
set_option maxRecDepth 20000 in
theorem ggX9_seen_X9_why : GoodIn wsX9_seen wsX9_why := goodIn_r _ [19, 20, 21, 76, 77, 78, 79, 80, 81, 82, 83, 84, 85, 86, 87, 88, 89, 90, 91, 92, 93, 94, 95] (by decide +kernel) (by decide +kernel)
set_option maxRecDepth 20000 in
theorem gX9_seen_X9_why : GoodIn wsX9_seen (wsV RX9 207 RX9 yX9_why wsX9_why) := goodIn_app (goodIn_of _ (by decide +kernel)) ggX9_seen_X9_why
set_option maxRecDepth 20000 in
theorem ggX9_seen_X9_asides : GoodIn wsX9_seen wsX9_asides := goodIn_r _ [25, 26, 3, 76, 77, 78, 79, 80, 81, 82, 83, 84, 85, 86, 87, 88, 89, 90, 91, 92, 93, 94, 95] (by decide +kernel) (by decide +kernel)
set_option maxRecDepth 20000 in
theorem gX9_seen_X9_asides : GoodIn wsX9_seen (wsV RX9 179 RX9 yX9_asides wsX9_asides) := goodIn_app (goodIn_of _ (by decide +kernel)) ggX9_seen_X9_asides
set_option maxRecDepth 20000 in
theorem ggX9_seen_X9_letsGo : GoodIn wsX9_seen wsX9_letsGo := goodIn_r _ [30, 3, 76, 77, 78, 79, 80, 81, 82, 83, 84, 85, 86, 87, 88, 89, 90, 91, 92, 93, 94, 95] (by decide +kernel) (by decide +kernel)
set_option maxRecDepth 20000 in
theorem gX9_seen_X9_letsGo : GoodIn wsX9_seen (wsV RX9 147 RX9 yX9_letsGo wsX9_letsGo) := goodIn_app (goodIn_of _ (by decide +kernel)) ggX9_seen_X9_letsGo
set_option maxRecDepth 20000 in
theorem ggX9_seen_X9_stepIfItGoes : GoodIn wsX9_seen wsX9_stepIfItGoes := goodIn_r _ [34, 35, 36, 37, 7, 38, 3, 39, 40, 41, 42, 43, 44, 45, 46, 47, 48, 49, 50, 51, 52, 53, 54, 55, 56, 57, 58, 59, 60, 61, 62, 63, 64, 65, 66, 67, 68, 69, 70, 71, 76, 77, 78, 79, 80, 81, 82, 83, 84, 85, 86, 87, 88, 89, 90, 91, 92, 93, 94, 95] (by decide +kernel) (by decide +kernel)
set_option maxRecDepth 20000 in
theorem gX9_seen_X9_stepIfItGoes : GoodIn wsX9_seen (wsV RX9 211 RX9 yX9_stepIfItGoes wsX9_stepIfItGoes) := goodIn_app (goodIn_of _ (by decide +kernel)) ggX9_seen_X9_stepIfItGoes
set_option maxRecDepth 20000 in
theorem ggX9_seen_X9_backs : GoodIn wsX9_seen wsX9_backs := goodIn_r _ [75, 3, 26, 76, 77, 78, 79, 80, 81, 82, 83, 84, 85, 86, 87, 88, 89, 90, 91, 92, 93, 94, 95] (by decide +kernel) (by decide +kernel)
set_option maxRecDepth 20000 in
theorem gX9_seen_X9_backs : GoodIn wsX9_seen (wsV RX9 185 RX9 yX9_backs wsX9_backs) := goodIn_app (goodIn_of _ (by decide +kernel)) ggX9_seen_X9_backs
theorem dX9_seen_0 : decode cX9_seen 0 = .ok (.iload_n 1, 1) := by decide +kernel
theorem dX9_seen_1 : decode cX9_seen 1 = .ok (.i2l, 1) := by decide +kernel
theorem dX9_seen_2 : decode cX9_seen 2 = .ok (.lconst 1, 1) := by decide +kernel
theorem dX9_seen_3 : decode cX9_seen 3 = .ok (.ldc2_w 142, 3) := by decide +kernel
theorem dX9_seen_6 : decode cX9_seen 6 = .ok (.invokestatic 51, 3) := by decide +kernel
theorem dX9_seen_9 : decode cX9_seen 9 = .ok (.ifCond .eq 41, 3) := by decide +kernel
theorem dX9_seen_12 : decode cX9_seen 12 = .ok (.iload_n 2, 1) := by decide +kernel
theorem dX9_seen_13 : decode cX9_seen 13 = .ok (.invokestatic 199, 3) := by decide +kernel
theorem dX9_seen_16 : decode cX9_seen 16 = .ok (.ifCond .eq 34, 3) := by decide +kernel
theorem dX9_seen_19 : decode cX9_seen 19 = .ok (.iload_n 3, 1) := by decide +kernel
theorem dX9_seen_20 : decode cX9_seen 20 = .ok (.invokestatic 202, 3) := by decide +kernel
theorem dX9_seen_23 : decode cX9_seen 23 = .ok (.ifCond .eq 27, 3) := by decide +kernel
theorem dX9_seen_26 : decode cX9_seen 26 = .ok (.iload 5, 2) := by decide +kernel
theorem dX9_seen_28 : decode cX9_seen 28 = .ok (.i2l, 1) := by decide +kernel
theorem dX9_seen_29 : decode cX9_seen 29 = .ok (.lconst 1, 1) := by decide +kernel
theorem dX9_seen_30 : decode cX9_seen 30 = .ok (.ldc2_w 205, 3) := by decide +kernel
theorem dX9_seen_33 : decode cX9_seen 33 = .ok (.invokestatic 51, 3) := by decide +kernel
theorem dX9_seen_36 : decode cX9_seen 36 = .ok (.ifCond .eq 14, 3) := by decide +kernel
theorem dX9_seen_39 : decode cX9_seen 39 = .ok (.iload 6, 2) := by decide +kernel
theorem dX9_seen_41 : decode cX9_seen 41 = .ok (.i2l, 1) := by decide +kernel
theorem dX9_seen_42 : decode cX9_seen 42 = .ok (.lconst 0, 1) := by decide +kernel
theorem dX9_seen_43 : decode cX9_seen 43 = .ok (.lconst 1, 1) := by decide +kernel
theorem dX9_seen_44 : decode cX9_seen 44 = .ok (.invokestatic 51, 3) := by decide +kernel
theorem dX9_seen_47 : decode cX9_seen 47 = .ok (.ifCond .ne 5, 3) := by decide +kernel
theorem dX9_seen_50 : decode cX9_seen 50 = .ok (.iconst (-1), 1) := by decide +kernel
theorem dX9_seen_51 : decode cX9_seen 51 = .ok (.ireturn, 1) := by decide +kernel
theorem dX9_seen_52 : decode cX9_seen 52 = .ok (.aload_n 0, 1) := by decide +kernel
theorem dX9_seen_53 : decode cX9_seen 53 = .ok (.iload_n 2, 1) := by decide +kernel
theorem dX9_seen_54 : decode cX9_seen 54 = .ok (.iload_n 3, 1) := by decide +kernel
theorem dX9_seen_55 : decode cX9_seen 55 = .ok (.iload 4, 2) := by decide +kernel
theorem dX9_seen_57 : decode cX9_seen 57 = .ok (.iload 5, 2) := by decide +kernel
theorem dX9_seen_59 : decode cX9_seen 59 = .ok (.invokevirtual 207, 3) := by decide +kernel
theorem dX9_seen_62 : decode cX9_seen 62 = .ok (.istore 7, 2) := by decide +kernel
theorem dX9_seen_64 : decode cX9_seen 64 = .ok (.iload 7, 2) := by decide +kernel
theorem dX9_seen_66 : decode cX9_seen 66 = .ok (.ifCond .ge 6, 3) := by decide +kernel
theorem dX9_seen_69 : decode cX9_seen 69 = .ok (.iload 7, 2) := by decide +kernel
theorem dX9_seen_71 : decode cX9_seen 71 = .ok (.ireturn, 1) := by decide +kernel
theorem dX9_seen_72 : decode cX9_seen 72 = .ok (.iconst 0, 1) := by decide +kernel
theorem dX9_seen_73 : decode cX9_seen 73 = .ok (.istore 8, 2) := by decide +kernel
theorem dX9_seen_75 : decode cX9_seen 75 = .ok (.bipush (-4), 2) := by decide +kernel
theorem dX9_seen_77 : decode cX9_seen 77 = .ok (.istore 9, 2) := by decide +kernel
theorem dX9_seen_79 : decode cX9_seen 79 = .ok (.aload_n 0, 1) := by decide +kernel
theorem dX9_seen_80 : decode cX9_seen 80 = .ok (.invokevirtual 179, 3) := by decide +kernel
theorem dX9_seen_83 : decode cX9_seen 83 = .ok (.iconst 0, 1) := by decide +kernel
theorem dX9_seen_84 : decode cX9_seen 84 = .ok (.istore 10, 2) := by decide +kernel
theorem dX9_seen_86 : decode cX9_seen 86 = .ok (.iload 10, 2) := by decide +kernel
theorem dX9_seen_88 : decode cX9_seen 88 = .ok (.bipush 100, 2) := by decide +kernel
theorem dX9_seen_90 : decode cX9_seen 90 = .ok (.if_icmp .ge 116, 3) := by decide +kernel
theorem dX9_seen_93 : decode cX9_seen 93 = .ok (.aload_n 0, 1) := by decide +kernel
theorem dX9_seen_94 : decode cX9_seen 94 = .ok (.iload_n 1, 1) := by decide +kernel
theorem dX9_seen_95 : decode cX9_seen 95 = .ok (.iload 10, 2) := by decide +kernel
theorem dX9_seen_97 : decode cX9_seen 97 = .ok (.invokevirtual 147, 3) := by decide +kernel
theorem dX9_seen_100 : decode cX9_seen 100 = .ok (.pop, 1) := by decide +kernel
theorem dX9_seen_101 : decode cX9_seen 101 = .ok (.iconst 1, 1) := by decide +kernel
theorem dX9_seen_102 : decode cX9_seen 102 = .ok (.istore 11, 2) := by decide +kernel
theorem dX9_seen_104 : decode cX9_seen 104 = .ok (.iconst 0, 1) := by decide +kernel
theorem dX9_seen_105 : decode cX9_seen 105 = .ok (.istore 12, 2) := by decide +kernel
theorem dX9_seen_107 : decode cX9_seen 107 = .ok (.iload 12, 2) := by decide +kernel
theorem dX9_seen_109 : decode cX9_seen 109 = .ok (.iload 5, 2) := by decide +kernel
theorem dX9_seen_111 : decode cX9_seen 111 = .ok (.if_icmp .ge 51, 3) := by decide +kernel
theorem dX9_seen_114 : decode cX9_seen 114 = .ok (.aload_n 0, 1) := by decide +kernel
theorem dX9_seen_115 : decode cX9_seen 115 = .ok (.invokevirtual 211, 3) := by decide +kernel
theorem dX9_seen_118 : decode cX9_seen 118 = .ok (.iload 11, 2) := by decide +kernel
theorem dX9_seen_120 : decode cX9_seen 120 = .ok (.ifCond .eq 33, 3) := by decide +kernel
theorem dX9_seen_123 : decode cX9_seen 123 = .ok (.aload_n 0, 1) := by decide +kernel
theorem dX9_seen_124 : decode cX9_seen 124 = .ok (.getfield 7, 3) := by decide +kernel
theorem dX9_seen_127 : decode cX9_seen 127 = .ok (.iconst 2, 1) := by decide +kernel
theorem dX9_seen_128 : decode cX9_seen 128 = .ok (.iaload, 1) := by decide +kernel
theorem dX9_seen_129 : decode cX9_seen 129 = .ok (.i2l, 1) := by decide +kernel
theorem dX9_seen_130 : decode cX9_seen 130 = .ok (.aload_n 0, 1) := by decide +kernel
theorem dX9_seen_131 : decode cX9_seen 131 = .ok (.getfield 41, 3) := by decide +kernel
theorem dX9_seen_134 : decode cX9_seen 134 = .ok (.bipush 24, 2) := by decide +kernel
theorem dX9_seen_136 : decode cX9_seen 136 = .ok (.iload_n 2, 1) := by decide +kernel
theorem dX9_seen_137 : decode cX9_seen 137 = .ok (.imul, 1) := by decide +kernel
theorem dX9_seen_138 : decode cX9_seen 138 = .ok (.iload 4, 2) := by decide +kernel
theorem dX9_seen_140 : decode cX9_seen 140 = .ok (.iadd, 1) := by decide +kernel
theorem dX9_seen_141 : decode cX9_seen 141 = .ok (.iload 12, 2) := by decide +kernel
theorem dX9_seen_143 : decode cX9_seen 143 = .ok (.iadd, 1) := by decide +kernel
theorem dX9_seen_144 : decode cX9_seen 144 = .ok (.laload, 1) := by decide +kernel
theorem dX9_seen_145 : decode cX9_seen 145 = .ok (.lcmp, 1) := by decide +kernel
theorem dX9_seen_146 : decode cX9_seen 146 = .ok (.ifCond .ne 7, 3) := by decide +kernel
theorem dX9_seen_149 : decode cX9_seen 149 = .ok (.iconst 1, 1) := by decide +kernel
theorem dX9_seen_150 : decode cX9_seen 150 = .ok (.goto 4, 3) := by decide +kernel
theorem dX9_seen_153 : decode cX9_seen 153 = .ok (.iconst 0, 1) := by decide +kernel
theorem dX9_seen_154 : decode cX9_seen 154 = .ok (.istore 11, 2) := by decide +kernel
theorem dX9_seen_156 : decode cX9_seen 156 = .ok (.iinc 12 1, 3) := by decide +kernel
theorem dX9_seen_159 : decode cX9_seen 159 = .ok (.goto (-52), 3) := by decide +kernel
theorem dX9_seen_162 : decode cX9_seen 162 = .ok (.iload 11, 2) := by decide +kernel
theorem dX9_seen_164 : decode cX9_seen 164 = .ok (.ifCond .eq 13, 3) := by decide +kernel
theorem dX9_seen_167 : decode cX9_seen 167 = .ok (.iload 8, 2) := by decide +kernel
theorem dX9_seen_169 : decode cX9_seen 169 = .ok (.ifCond .ne 8, 3) := by decide +kernel
theorem dX9_seen_172 : decode cX9_seen 172 = .ok (.iload 10, 2) := by decide +kernel
theorem dX9_seen_174 : decode cX9_seen 174 = .ok (.goto 5, 3) := by decide +kernel
theorem dX9_seen_177 : decode cX9_seen 177 = .ok (.iload 9, 2) := by decide +kernel
theorem dX9_seen_179 : decode cX9_seen 179 = .ok (.istore 9, 2) := by decide +kernel
theorem dX9_seen_181 : decode cX9_seen 181 = .ok (.iload 8, 2) := by decide +kernel
theorem dX9_seen_183 : decode cX9_seen 183 = .ok (.iload 11, 2) := by decide +kernel
theorem dX9_seen_185 : decode cX9_seen 185 = .ok (.ifCond .eq 7, 3) := by decide +kernel
theorem dX9_seen_188 : decode cX9_seen 188 = .ok (.iconst 1, 1) := by decide +kernel
theorem dX9_seen_189 : decode cX9_seen 189 = .ok (.goto 4, 3) := by decide +kernel
theorem dX9_seen_192 : decode cX9_seen 192 = .ok (.iconst 0, 1) := by decide +kernel
theorem dX9_seen_193 : decode cX9_seen 193 = .ok (.iadd, 1) := by decide +kernel
theorem dX9_seen_194 : decode cX9_seen 194 = .ok (.istore 8, 2) := by decide +kernel
theorem dX9_seen_196 : decode cX9_seen 196 = .ok (.aload_n 0, 1) := by decide +kernel
theorem dX9_seen_197 : decode cX9_seen 197 = .ok (.invokevirtual 185, 3) := by decide +kernel
theorem dX9_seen_200 : decode cX9_seen 200 = .ok (.iinc 10 1, 3) := by decide +kernel
theorem dX9_seen_203 : decode cX9_seen 203 = .ok (.goto (-117), 3) := by decide +kernel
theorem dX9_seen_206 : decode cX9_seen 206 = .ok (.iload 6, 2) := by decide +kernel
theorem dX9_seen_208 : decode cX9_seen 208 = .ok (.ifCond .ne 8, 3) := by decide +kernel
theorem dX9_seen_211 : decode cX9_seen 211 = .ok (.iload 8, 2) := by decide +kernel
theorem dX9_seen_213 : decode cX9_seen 213 = .ok (.goto 5, 3) := by decide +kernel
theorem dX9_seen_216 : decode cX9_seen 216 = .ok (.iload 9, 2) := by decide +kernel
theorem dX9_seen_218 : decode cX9_seen 218 = .ok (.ireturn, 1) := by decide +kernel
set_option maxRecDepth 20000 in
theorem ggX9_film_X9_in : GoodIn wsX9_film wsX9_in := goodIn_r _ [7] (by decide +kernel) (by decide +kernel)
set_option maxRecDepth 20000 in
theorem gX9_film_X9_in : GoodIn wsX9_film (va_wsS RX9 51 yX9_in wsX9_in) := goodIn_app (goodIn_of _ (by decide +kernel)) ggX9_film_X9_in
set_option maxRecDepth 20000 in
theorem ggX9_film_X9_isSheet : GoodIn wsX9_film wsX9_isSheet := goodIn_r _ [10, 11, 4, 5, 6, 7] (by decide +kernel) (by decide +kernel)
set_option maxRecDepth 20000 in
theorem gX9_film_X9_isSheet : GoodIn wsX9_film (va_wsS RX9 199 yX9_isSheet wsX9_isSheet) := goodIn_app (goodIn_of _ (by decide +kernel)) ggX9_film_X9_isSheet
set_option maxRecDepth 20000 in
theorem ggX9_film_X9_isLane : GoodIn wsX9_film wsX9_isLane := goodIn_r _ [14, 11, 4, 5, 6, 7] (by decide +kernel) (by decide +kernel)
set_option maxRecDepth 20000 in
theorem gX9_film_X9_isLane : GoodIn wsX9_film (va_wsS RX9 202 yX9_isLane wsX9_isLane) := goodIn_app (goodIn_of _ (by decide +kernel)) ggX9_film_X9_isLane
set_option maxRecDepth 20000 in
theorem ggX9_film_X9_why : GoodIn wsX9_film wsX9_why := goodIn_r _ [18, 19, 20, 71, 72, 73, 74, 75, 76, 77, 78, 79, 80, 81, 82, 83, 84, 85, 86, 87, 88, 89, 90] (by decide +kernel) (by decide +kernel)
set_option maxRecDepth 20000 in
theorem gX9_film_X9_why : GoodIn wsX9_film (wsV RX9 207 RX9 yX9_why wsX9_why) := goodIn_app (goodIn_of _ (by decide +kernel)) ggX9_film_X9_why
set_option maxRecDepth 20000 in
theorem ggX9_film_X9_asides : GoodIn wsX9_film wsX9_asides := goodIn_r _ [24, 25, 3, 71, 72, 73, 74, 75, 76, 77, 78, 79, 80, 81, 82, 83, 84, 85, 86, 87, 88, 89, 90] (by decide +kernel) (by decide +kernel)
set_option maxRecDepth 20000 in
theorem gX9_film_X9_asides : GoodIn wsX9_film (wsV RX9 179 RX9 yX9_asides wsX9_asides) := goodIn_app (goodIn_of _ (by decide +kernel)) ggX9_film_X9_asides
set_option maxRecDepth 20000 in
theorem ggX9_film_X9_stepIfItGoes : GoodIn wsX9_film wsX9_stepIfItGoes := goodIn_r _ [29, 30, 31, 32, 6, 33, 3, 34, 35, 36, 37, 38, 39, 40, 41, 42, 43, 44, 45, 46, 47, 48, 49, 50, 51, 52, 53, 54, 55, 56, 57, 58, 59, 60, 61, 62, 63, 64, 65, 66, 71, 72, 73, 74, 75, 76, 77, 78, 79, 80, 81, 82, 83, 84, 85, 86, 87, 88, 89, 90] (by decide +kernel) (by decide +kernel)
set_option maxRecDepth 20000 in
theorem gX9_film_X9_stepIfItGoes : GoodIn wsX9_film (wsV RX9 211 RX9 yX9_stepIfItGoes wsX9_stepIfItGoes) := goodIn_app (goodIn_of _ (by decide +kernel)) ggX9_film_X9_stepIfItGoes
set_option maxRecDepth 20000 in
theorem ggX9_film_X9_backs : GoodIn wsX9_film wsX9_backs := goodIn_r _ [70, 3, 25, 71, 72, 73, 74, 75, 76, 77, 78, 79, 80, 81, 82, 83, 84, 85, 86, 87, 88, 89, 90] (by decide +kernel) (by decide +kernel)
set_option maxRecDepth 20000 in
theorem gX9_film_X9_backs : GoodIn wsX9_film (wsV RX9 185 RX9 yX9_backs wsX9_backs) := goodIn_app (goodIn_of _ (by decide +kernel)) ggX9_film_X9_backs
theorem dX9_film_0 : decode cX9_film 0 = .ok (.iload_n 1, 1) := by decide +kernel
theorem dX9_film_1 : decode cX9_film 1 = .ok (.i2l, 1) := by decide +kernel
theorem dX9_film_2 : decode cX9_film 2 = .ok (.lconst 1, 1) := by decide +kernel
theorem dX9_film_3 : decode cX9_film 3 = .ok (.ldc2_w 151, 3) := by decide +kernel
theorem dX9_film_6 : decode cX9_film 6 = .ok (.invokestatic 51, 3) := by decide +kernel
theorem dX9_film_9 : decode cX9_film 9 = .ok (.ifCond .eq 17, 3) := by decide +kernel
theorem dX9_film_12 : decode cX9_film 12 = .ok (.iload_n 2, 1) := by decide +kernel
theorem dX9_film_13 : decode cX9_film 13 = .ok (.invokestatic 199, 3) := by decide +kernel
theorem dX9_film_16 : decode cX9_film 16 = .ok (.ifCond .eq 10, 3) := by decide +kernel
theorem dX9_film_19 : decode cX9_film 19 = .ok (.iload_n 3, 1) := by decide +kernel
theorem dX9_film_20 : decode cX9_film 20 = .ok (.invokestatic 202, 3) := by decide +kernel
theorem dX9_film_23 : decode cX9_film 23 = .ok (.ifCond .ne 5, 3) := by decide +kernel
theorem dX9_film_26 : decode cX9_film 26 = .ok (.iconst (-1), 1) := by decide +kernel
theorem dX9_film_27 : decode cX9_film 27 = .ok (.ireturn, 1) := by decide +kernel
theorem dX9_film_28 : decode cX9_film 28 = .ok (.aload_n 0, 1) := by decide +kernel
theorem dX9_film_29 : decode cX9_film 29 = .ok (.iload_n 2, 1) := by decide +kernel
theorem dX9_film_30 : decode cX9_film 30 = .ok (.iload_n 3, 1) := by decide +kernel
theorem dX9_film_31 : decode cX9_film 31 = .ok (.iload 4, 2) := by decide +kernel
theorem dX9_film_33 : decode cX9_film 33 = .ok (.iload_n 1, 1) := by decide +kernel
theorem dX9_film_34 : decode cX9_film 34 = .ok (.invokevirtual 207, 3) := by decide +kernel
theorem dX9_film_37 : decode cX9_film 37 = .ok (.istore 5, 2) := by decide +kernel
theorem dX9_film_39 : decode cX9_film 39 = .ok (.iload 5, 2) := by decide +kernel
theorem dX9_film_41 : decode cX9_film 41 = .ok (.ifCond .ge 6, 3) := by decide +kernel
theorem dX9_film_44 : decode cX9_film 44 = .ok (.iload 5, 2) := by decide +kernel
theorem dX9_film_46 : decode cX9_film 46 = .ok (.ireturn, 1) := by decide +kernel
theorem dX9_film_47 : decode cX9_film 47 = .ok (.aload_n 0, 1) := by decide +kernel
theorem dX9_film_48 : decode cX9_film 48 = .ok (.invokevirtual 179, 3) := by decide +kernel
theorem dX9_film_51 : decode cX9_film 51 = .ok (.iconst 0, 1) := by decide +kernel
theorem dX9_film_52 : decode cX9_film 52 = .ok (.istore 6, 2) := by decide +kernel
theorem dX9_film_54 : decode cX9_film 54 = .ok (.iload 6, 2) := by decide +kernel
theorem dX9_film_56 : decode cX9_film 56 = .ok (.iload_n 1, 1) := by decide +kernel
theorem dX9_film_57 : decode cX9_film 57 = .ok (.if_icmp .ge 35, 3) := by decide +kernel
theorem dX9_film_60 : decode cX9_film 60 = .ok (.aload_n 0, 1) := by decide +kernel
theorem dX9_film_61 : decode cX9_film 61 = .ok (.invokevirtual 211, 3) := by decide +kernel
theorem dX9_film_64 : decode cX9_film 64 = .ok (.aload_n 0, 1) := by decide +kernel
theorem dX9_film_65 : decode cX9_film 65 = .ok (.getfield 41, 3) := by decide +kernel
theorem dX9_film_68 : decode cX9_film 68 = .ok (.bipush 24, 2) := by decide +kernel
theorem dX9_film_70 : decode cX9_film 70 = .ok (.iload_n 2, 1) := by decide +kernel
theorem dX9_film_71 : decode cX9_film 71 = .ok (.imul, 1) := by decide +kernel
theorem dX9_film_72 : decode cX9_film 72 = .ok (.iload 4, 2) := by decide +kernel
theorem dX9_film_74 : decode cX9_film 74 = .ok (.iadd, 1) := by decide +kernel
theorem dX9_film_75 : decode cX9_film 75 = .ok (.iload 6, 2) := by decide +kernel
theorem dX9_film_77 : decode cX9_film 77 = .ok (.iadd, 1) := by decide +kernel
theorem dX9_film_78 : decode cX9_film 78 = .ok (.aload_n 0, 1) := by decide +kernel
theorem dX9_film_79 : decode cX9_film 79 = .ok (.getfield 7, 3) := by decide +kernel
theorem dX9_film_82 : decode cX9_film 82 = .ok (.iconst 2, 1) := by decide +kernel
theorem dX9_film_83 : decode cX9_film 83 = .ok (.iaload, 1) := by decide +kernel
theorem dX9_film_84 : decode cX9_film 84 = .ok (.i2l, 1) := by decide +kernel
theorem dX9_film_85 : decode cX9_film 85 = .ok (.lastore, 1) := by decide +kernel
theorem dX9_film_86 : decode cX9_film 86 = .ok (.iinc 6 1, 3) := by decide +kernel
theorem dX9_film_89 : decode cX9_film 89 = .ok (.goto (-35), 3) := by decide +kernel
theorem dX9_film_92 : decode cX9_film 92 = .ok (.aload_n 0, 1) := by decide +kernel
theorem dX9_film_93 : decode cX9_film 93 = .ok (.invokevirtual 185, 3) := by decide +kernel
theorem dX9_film_96 : decode cX9_film 96 = .ok (.iload_n 1, 1) := by decide +kernel
theorem dX9_film_97 : decode cX9_film 97 = .ok (.ireturn, 1) := by decide +kernel
set_option maxRecDepth 20000 in
theorem ggX9_sheet_X9_isSheet : GoodIn wsX9_sheet wsX9_isSheet := goodIn_r _ [7, 8, 9, 10, 6, 11] (by decide +kernel) (by decide +kernel)
set_option maxRecDepth 20000 in
theorem gX9_sheet_X9_isSheet : GoodIn wsX9_sheet (va_wsS RX9 199 yX9_isSheet wsX9_isSheet) := goodIn_app (goodIn_of _ (by decide +kernel)) ggX9_sheet_X9_isSheet
set_option maxRecDepth 20000 in
theorem ggX9_sheet_X9_isLane : GoodIn wsX9_sheet wsX9_isLane := goodIn_r _ [14, 8, 9, 10, 6, 11] (by decide +kernel) (by decide +kernel)
set_option maxRecDepth 20000 in
theorem gX9_sheet_X9_isLane : GoodIn wsX9_sheet (va_wsS RX9 202 yX9_isLane wsX9_isLane) := goodIn_app (goodIn_of _ (by decide +kernel)) ggX9_sheet_X9_isLane
theorem dX9_sheet_0 : decode cX9_sheet 0 = .ok (.iload_n 1, 1) := by decide +kernel
theorem dX9_sheet_1 : decode cX9_sheet 1 = .ok (.invokestatic 199, 3) := by decide +kernel
theorem dX9_sheet_4 : decode cX9_sheet 4 = .ok (.ifCond .eq 16, 3) := by decide +kernel
theorem dX9_sheet_7 : decode cX9_sheet 7 = .ok (.iload_n 2, 1) := by decide +kernel
theorem dX9_sheet_8 : decode cX9_sheet 8 = .ok (.invokestatic 202, 3) := by decide +kernel
theorem dX9_sheet_11 : decode cX9_sheet 11 = .ok (.ifCond .eq 9, 3) := by decide +kernel
theorem dX9_sheet_14 : decode cX9_sheet 14 = .ok (.iload_n 3, 1) := by decide +kernel
theorem dX9_sheet_15 : decode cX9_sheet 15 = .ok (.bipush 24, 2) := by decide +kernel
theorem dX9_sheet_17 : decode cX9_sheet 17 = .ok (.if_icmp .le 5, 3) := by decide +kernel
theorem dX9_sheet_20 : decode cX9_sheet 20 = .ok (.iconst (-1), 1) := by decide +kernel
theorem dX9_sheet_21 : decode cX9_sheet 21 = .ok (.ireturn, 1) := by decide +kernel
theorem dX9_sheet_22 : decode cX9_sheet 22 = .ok (.iload_n 3, 1) := by decide +kernel
theorem dX9_sheet_23 : decode cX9_sheet 23 = .ok (.ifCond .ge 6, 3) := by decide +kernel
theorem dX9_sheet_26 : decode cX9_sheet 26 = .ok (.bipush (-14), 2) := by decide +kernel
theorem dX9_sheet_28 : decode cX9_sheet 28 = .ok (.ireturn, 1) := by decide +kernel
theorem dX9_sheet_29 : decode cX9_sheet 29 = .ok (.aload_n 0, 1) := by decide +kernel
theorem dX9_sheet_30 : decode cX9_sheet 30 = .ok (.getfield 35, 3) := by decide +kernel
theorem dX9_sheet_33 : decode cX9_sheet 33 = .ok (.iload_n 1, 1) := by decide +kernel
theorem dX9_sheet_34 : decode cX9_sheet 34 = .ok (.iload_n 2, 1) := by decide +kernel
theorem dX9_sheet_35 : decode cX9_sheet 35 = .ok (.iastore, 1) := by decide +kernel
theorem dX9_sheet_36 : decode cX9_sheet 36 = .ok (.aload_n 0, 1) := by decide +kernel
theorem dX9_sheet_37 : decode cX9_sheet 37 = .ok (.getfield 38, 3) := by decide +kernel
theorem dX9_sheet_40 : decode cX9_sheet 40 = .ok (.iload_n 1, 1) := by decide +kernel
theorem dX9_sheet_41 : decode cX9_sheet 41 = .ok (.iload_n 3, 1) := by decide +kernel
theorem dX9_sheet_42 : decode cX9_sheet 42 = .ok (.iastore, 1) := by decide +kernel
theorem dX9_sheet_43 : decode cX9_sheet 43 = .ok (.iconst 0, 1) := by decide +kernel
theorem dX9_sheet_44 : decode cX9_sheet 44 = .ok (.istore 4, 2) := by decide +kernel
theorem dX9_sheet_46 : decode cX9_sheet 46 = .ok (.iload 4, 2) := by decide +kernel
theorem dX9_sheet_48 : decode cX9_sheet 48 = .ok (.bipush 24, 2) := by decide +kernel
theorem dX9_sheet_50 : decode cX9_sheet 50 = .ok (.if_icmp .ge 22, 3) := by decide +kernel
theorem dX9_sheet_53 : decode cX9_sheet 53 = .ok (.aload_n 0, 1) := by decide +kernel
theorem dX9_sheet_54 : decode cX9_sheet 54 = .ok (.getfield 41, 3) := by decide +kernel
theorem dX9_sheet_57 : decode cX9_sheet 57 = .ok (.bipush 24, 2) := by decide +kernel
theorem dX9_sheet_59 : decode cX9_sheet 59 = .ok (.iload_n 1, 1) := by decide +kernel
theorem dX9_sheet_60 : decode cX9_sheet 60 = .ok (.imul, 1) := by decide +kernel
theorem dX9_sheet_61 : decode cX9_sheet 61 = .ok (.iload 4, 2) := by decide +kernel
theorem dX9_sheet_63 : decode cX9_sheet 63 = .ok (.iadd, 1) := by decide +kernel
theorem dX9_sheet_64 : decode cX9_sheet 64 = .ok (.lconst 0, 1) := by decide +kernel
theorem dX9_sheet_65 : decode cX9_sheet 65 = .ok (.lastore, 1) := by decide +kernel
theorem dX9_sheet_66 : decode cX9_sheet 66 = .ok (.iinc 4 1, 3) := by decide +kernel
theorem dX9_sheet_69 : decode cX9_sheet 69 = .ok (.goto (-23), 3) := by decide +kernel
theorem dX9_sheet_72 : decode cX9_sheet 72 = .ok (.iload_n 3, 1) := by decide +kernel
theorem dX9_sheet_73 : decode cX9_sheet 73 = .ok (.ireturn, 1) := by decide +kernel
set_option maxRecDepth 20000 in
theorem ggX9_drop_X9_isSheet : GoodIn wsX9_drop wsX9_isSheet := goodIn_r _ [6, 7, 8, 9, 5, 10] (by decide +kernel) (by decide +kernel)
set_option maxRecDepth 20000 in
theorem gX9_drop_X9_isSheet : GoodIn wsX9_drop (va_wsS RX9 199 yX9_isSheet wsX9_isSheet) := goodIn_app (goodIn_of _ (by decide +kernel)) ggX9_drop_X9_isSheet
theorem dX9_drop_0 : decode cX9_drop 0 = .ok (.iload_n 1, 1) := by decide +kernel
theorem dX9_drop_1 : decode cX9_drop 1 = .ok (.invokestatic 199, 3) := by decide +kernel
theorem dX9_drop_4 : decode cX9_drop 4 = .ok (.ifCond .ne 5, 3) := by decide +kernel
theorem dX9_drop_7 : decode cX9_drop 7 = .ok (.iconst (-1), 1) := by decide +kernel
theorem dX9_drop_8 : decode cX9_drop 8 = .ok (.ireturn, 1) := by decide +kernel
theorem dX9_drop_9 : decode cX9_drop 9 = .ok (.aload_n 0, 1) := by decide +kernel
theorem dX9_drop_10 : decode cX9_drop 10 = .ok (.getfield 35, 3) := by decide +kernel
theorem dX9_drop_13 : decode cX9_drop 13 = .ok (.iload_n 1, 1) := by decide +kernel
theorem dX9_drop_14 : decode cX9_drop 14 = .ok (.iaload, 1) := by decide +kernel
theorem dX9_drop_15 : decode cX9_drop 15 = .ok (.ifCond .ge 6, 3) := by decide +kernel
theorem dX9_drop_18 : decode cX9_drop 18 = .ok (.bipush (-11), 2) := by decide +kernel
theorem dX9_drop_20 : decode cX9_drop 20 = .ok (.ireturn, 1) := by decide +kernel
theorem dX9_drop_21 : decode cX9_drop 21 = .ok (.aload_n 0, 1) := by decide +kernel
theorem dX9_drop_22 : decode cX9_drop 22 = .ok (.getfield 35, 3) := by decide +kernel
theorem dX9_drop_25 : decode cX9_drop 25 = .ok (.iload_n 1, 1) := by decide +kernel
theorem dX9_drop_26 : decode cX9_drop 26 = .ok (.iconst (-1), 1) := by decide +kernel
theorem dX9_drop_27 : decode cX9_drop 27 = .ok (.iastore, 1) := by decide +kernel
theorem dX9_drop_28 : decode cX9_drop 28 = .ok (.aload_n 0, 1) := by decide +kernel
theorem dX9_drop_29 : decode cX9_drop 29 = .ok (.getfield 38, 3) := by decide +kernel
theorem dX9_drop_32 : decode cX9_drop 32 = .ok (.iload_n 1, 1) := by decide +kernel
theorem dX9_drop_33 : decode cX9_drop 33 = .ok (.iaload, 1) := by decide +kernel
theorem dX9_drop_34 : decode cX9_drop 34 = .ok (.ireturn, 1) := by decide +kernel
set_option maxRecDepth 20000 in
theorem ggX9_item_X9_isSheet : GoodIn wsX9_item wsX9_isSheet := goodIn_r _ [5, 6, 7, 8, 4, 9] (by decide +kernel) (by decide +kernel)
set_option maxRecDepth 20000 in
theorem gX9_item_X9_isSheet : GoodIn wsX9_item (va_wsS RX9 199 yX9_isSheet wsX9_isSheet) := goodIn_app (goodIn_of _ (by decide +kernel)) ggX9_item_X9_isSheet
set_option maxRecDepth 20000 in
theorem ggX9_item_X9_isLane : GoodIn wsX9_item wsX9_isLane := goodIn_r _ [12, 6, 7, 8, 4, 9] (by decide +kernel) (by decide +kernel)
set_option maxRecDepth 20000 in
theorem gX9_item_X9_isLane : GoodIn wsX9_item (va_wsS RX9 202 yX9_isLane wsX9_isLane) := goodIn_app (goodIn_of _ (by decide +kernel)) ggX9_item_X9_isLane
set_option maxRecDepth 20000 in
theorem ggX9_item_X9_why : GoodIn wsX9_item wsX9_why := goodIn_r _ [16, 17, 18, 19, 20, 21, 22, 23, 24, 25, 26, 27, 28, 29, 30, 31, 32, 33, 34, 35, 36, 37, 38] (by decide +kernel) (by decide +kernel)
set_option maxRecDepth 20000 in
theorem gX9_item_X9_why : GoodIn wsX9_item (wsV RX9 207 RX9 yX9_why wsX9_why) := goodIn_app (goodIn_of _ (by decide +kernel)) ggX9_item_X9_why
theorem dX9_item_0 : decode cX9_item 0 = .ok (.iload_n 1, 1) := by decide +kernel
theorem dX9_item_1 : decode cX9_item 1 = .ok (.invokestatic 199, 3) := by decide +kernel
theorem dX9_item_4 : decode cX9_item 4 = .ok (.ifCond .eq 10, 3) := by decide +kernel
theorem dX9_item_7 : decode cX9_item 7 = .ok (.iload_n 2, 1) := by decide +kernel
theorem dX9_item_8 : decode cX9_item 8 = .ok (.invokestatic 202, 3) := by decide +kernel
theorem dX9_item_11 : decode cX9_item 11 = .ok (.ifCond .ne 5, 3) := by decide +kernel
theorem dX9_item_14 : decode cX9_item 14 = .ok (.iconst (-1), 1) := by decide +kernel
theorem dX9_item_15 : decode cX9_item 15 = .ok (.ireturn, 1) := by decide +kernel
theorem dX9_item_16 : decode cX9_item 16 = .ok (.aload_n 0, 1) := by decide +kernel
theorem dX9_item_17 : decode cX9_item 17 = .ok (.iload_n 1, 1) := by decide +kernel
theorem dX9_item_18 : decode cX9_item 18 = .ok (.iload_n 2, 1) := by decide +kernel
theorem dX9_item_19 : decode cX9_item 19 = .ok (.iload_n 3, 1) := by decide +kernel
theorem dX9_item_20 : decode cX9_item 20 = .ok (.iconst 1, 1) := by decide +kernel
theorem dX9_item_21 : decode cX9_item 21 = .ok (.invokevirtual 207, 3) := by decide +kernel
theorem dX9_item_24 : decode cX9_item 24 = .ok (.istore 6, 2) := by decide +kernel
theorem dX9_item_26 : decode cX9_item 26 = .ok (.iload 6, 2) := by decide +kernel
theorem dX9_item_28 : decode cX9_item 28 = .ok (.ifCond .ge 6, 3) := by decide +kernel
theorem dX9_item_31 : decode cX9_item 31 = .ok (.iload 6, 2) := by decide +kernel
theorem dX9_item_33 : decode cX9_item 33 = .ok (.ireturn, 1) := by decide +kernel
theorem dX9_item_34 : decode cX9_item 34 = .ok (.aload_n 0, 1) := by decide +kernel
theorem dX9_item_35 : decode cX9_item 35 = .ok (.getfield 41, 3) := by decide +kernel
theorem dX9_item_38 : decode cX9_item 38 = .ok (.bipush 24, 2) := by decide +kernel
theorem dX9_item_40 : decode cX9_item 40 = .ok (.iload_n 1, 1) := by decide +kernel
theorem dX9_item_41 : decode cX9_item 41 = .ok (.imul, 1) := by decide +kernel
theorem dX9_item_42 : decode cX9_item 42 = .ok (.iload_n 3, 1) := by decide +kernel
theorem dX9_item_43 : decode cX9_item 43 = .ok (.iadd, 1) := by decide +kernel
theorem dX9_item_44 : decode cX9_item 44 = .ok (.iload_n 2, 1) := by decide +kernel
theorem dX9_item_45 : decode cX9_item 45 = .ok (.ifCond .ne 11, 3) := by decide +kernel
theorem dX9_item_48 : decode cX9_item 48 = .ok (.lload 4, 2) := by decide +kernel
theorem dX9_item_50 : decode cX9_item 50 = .ok (.l2i, 1) := by decide +kernel
theorem dX9_item_51 : decode cX9_item 51 = .ok (.i2b, 1) := by decide +kernel
theorem dX9_item_52 : decode cX9_item 52 = .ok (.i2l, 1) := by decide +kernel
theorem dX9_item_53 : decode cX9_item 53 = .ok (.goto 30, 3) := by decide +kernel
theorem dX9_item_56 : decode cX9_item 56 = .ok (.iload_n 2, 1) := by decide +kernel
theorem dX9_item_57 : decode cX9_item 57 = .ok (.iconst 1, 1) := by decide +kernel
theorem dX9_item_58 : decode cX9_item 58 = .ok (.if_icmp .ne 11, 3) := by decide +kernel
theorem dX9_item_61 : decode cX9_item 61 = .ok (.lload 4, 2) := by decide +kernel
theorem dX9_item_63 : decode cX9_item 63 = .ok (.l2i, 1) := by decide +kernel
theorem dX9_item_64 : decode cX9_item 64 = .ok (.i2s, 1) := by decide +kernel
theorem dX9_item_65 : decode cX9_item 65 = .ok (.i2l, 1) := by decide +kernel
theorem dX9_item_66 : decode cX9_item 66 = .ok (.goto 17, 3) := by decide +kernel
theorem dX9_item_69 : decode cX9_item 69 = .ok (.iload_n 2, 1) := by decide +kernel
theorem dX9_item_70 : decode cX9_item 70 = .ok (.iconst 2, 1) := by decide +kernel
theorem dX9_item_71 : decode cX9_item 71 = .ok (.if_icmp .ne 10, 3) := by decide +kernel
theorem dX9_item_74 : decode cX9_item 74 = .ok (.lload 4, 2) := by decide +kernel
theorem dX9_item_76 : decode cX9_item 76 = .ok (.l2i, 1) := by decide +kernel
theorem dX9_item_77 : decode cX9_item 77 = .ok (.i2l, 1) := by decide +kernel
theorem dX9_item_78 : decode cX9_item 78 = .ok (.goto 5, 3) := by decide +kernel
theorem dX9_item_81 : decode cX9_item 81 = .ok (.lload 4, 2) := by decide +kernel
theorem dX9_item_83 : decode cX9_item 83 = .ok (.lastore, 1) := by decide +kernel
theorem dX9_item_84 : decode cX9_item 84 = .ok (.iconst 1, 1) := by decide +kernel
theorem dX9_item_85 : decode cX9_item 85 = .ok (.ireturn, 1) := by decide +kernel
set_option maxRecDepth 20000 in
theorem ggX9_copy_X9_isSheet : GoodIn wsX9_copy wsX9_isSheet := goodIn_r _ [7, 8, 9, 10, 6, 11] (by decide +kernel) (by decide +kernel)
set_option maxRecDepth 20000 in
theorem gX9_copy_X9_isSheet : GoodIn wsX9_copy (va_wsS RX9 199 yX9_isSheet wsX9_isSheet) := goodIn_app (goodIn_of _ (by decide +kernel)) ggX9_copy_X9_isSheet
set_option maxRecDepth 20000 in
theorem ggX9_copy_X9_why : GoodIn wsX9_copy wsX9_why := goodIn_r _ [15, 1, 16, 17, 18, 19, 20, 21, 22, 23, 24, 25, 26, 27, 28, 29, 30, 31, 32, 33, 34, 35, 36] (by decide +kernel) (by decide +kernel)
set_option maxRecDepth 20000 in
theorem gX9_copy_X9_why : GoodIn wsX9_copy (wsV RX9 207 RX9 yX9_why wsX9_why) := goodIn_app (goodIn_of _ (by decide +kernel)) ggX9_copy_X9_why
theorem dX9_copy_0 : decode cX9_copy 0 = .ok (.iload_n 1, 1) := by decide +kernel
theorem dX9_copy_1 : decode cX9_copy 1 = .ok (.invokestatic 199, 3) := by decide +kernel
theorem dX9_copy_4 : decode cX9_copy 4 = .ok (.ifCond .eq 10, 3) := by decide +kernel
theorem dX9_copy_7 : decode cX9_copy 7 = .ok (.iload_n 3, 1) := by decide +kernel
theorem dX9_copy_8 : decode cX9_copy 8 = .ok (.invokestatic 199, 3) := by decide +kernel
theorem dX9_copy_11 : decode cX9_copy 11 = .ok (.ifCond .ne 5, 3) := by decide +kernel
theorem dX9_copy_14 : decode cX9_copy 14 = .ok (.iconst (-1), 1) := by decide +kernel
theorem dX9_copy_15 : decode cX9_copy 15 = .ok (.ireturn, 1) := by decide +kernel
theorem dX9_copy_16 : decode cX9_copy 16 = .ok (.aload_n 0, 1) := by decide +kernel
theorem dX9_copy_17 : decode cX9_copy 17 = .ok (.getfield 35, 3) := by decide +kernel
theorem dX9_copy_20 : decode cX9_copy 20 = .ok (.iload_n 1, 1) := by decide +kernel
theorem dX9_copy_21 : decode cX9_copy 21 = .ok (.iaload, 1) := by decide +kernel
theorem dX9_copy_22 : decode cX9_copy 22 = .ok (.ifCond .lt 12, 3) := by decide +kernel
theorem dX9_copy_25 : decode cX9_copy 25 = .ok (.aload_n 0, 1) := by decide +kernel
theorem dX9_copy_26 : decode cX9_copy 26 = .ok (.getfield 35, 3) := by decide +kernel
theorem dX9_copy_29 : decode cX9_copy 29 = .ok (.iload_n 3, 1) := by decide +kernel
theorem dX9_copy_30 : decode cX9_copy 30 = .ok (.iaload, 1) := by decide +kernel
theorem dX9_copy_31 : decode cX9_copy 31 = .ok (.ifCond .ge 6, 3) := by decide +kernel
theorem dX9_copy_34 : decode cX9_copy 34 = .ok (.bipush (-11), 2) := by decide +kernel
theorem dX9_copy_36 : decode cX9_copy 36 = .ok (.ireturn, 1) := by decide +kernel
theorem dX9_copy_37 : decode cX9_copy 37 = .ok (.aload_n 0, 1) := by decide +kernel
theorem dX9_copy_38 : decode cX9_copy 38 = .ok (.iload_n 3, 1) := by decide +kernel
theorem dX9_copy_39 : decode cX9_copy 39 = .ok (.aload_n 0, 1) := by decide +kernel
theorem dX9_copy_40 : decode cX9_copy 40 = .ok (.getfield 35, 3) := by decide +kernel
theorem dX9_copy_43 : decode cX9_copy 43 = .ok (.iload_n 1, 1) := by decide +kernel
theorem dX9_copy_44 : decode cX9_copy 44 = .ok (.iaload, 1) := by decide +kernel
theorem dX9_copy_45 : decode cX9_copy 45 = .ok (.iload 4, 2) := by decide +kernel
theorem dX9_copy_47 : decode cX9_copy 47 = .ok (.iload 5, 2) := by decide +kernel
theorem dX9_copy_49 : decode cX9_copy 49 = .ok (.invokevirtual 207, 3) := by decide +kernel
theorem dX9_copy_52 : decode cX9_copy 52 = .ok (.istore 6, 2) := by decide +kernel
theorem dX9_copy_54 : decode cX9_copy 54 = .ok (.iload 6, 2) := by decide +kernel
theorem dX9_copy_56 : decode cX9_copy 56 = .ok (.ifCond .ne 20, 3) := by decide +kernel
theorem dX9_copy_59 : decode cX9_copy 59 = .ok (.aload_n 0, 1) := by decide +kernel
theorem dX9_copy_60 : decode cX9_copy 60 = .ok (.iload_n 1, 1) := by decide +kernel
theorem dX9_copy_61 : decode cX9_copy 61 = .ok (.aload_n 0, 1) := by decide +kernel
theorem dX9_copy_62 : decode cX9_copy 62 = .ok (.getfield 35, 3) := by decide +kernel
theorem dX9_copy_65 : decode cX9_copy 65 = .ok (.iload_n 1, 1) := by decide +kernel
theorem dX9_copy_66 : decode cX9_copy 66 = .ok (.iaload, 1) := by decide +kernel
theorem dX9_copy_67 : decode cX9_copy 67 = .ok (.iload_n 2, 1) := by decide +kernel
theorem dX9_copy_68 : decode cX9_copy 68 = .ok (.iload 5, 2) := by decide +kernel
theorem dX9_copy_70 : decode cX9_copy 70 = .ok (.invokevirtual 207, 3) := by decide +kernel
theorem dX9_copy_73 : decode cX9_copy 73 = .ok (.goto 5, 3) := by decide +kernel
theorem dX9_copy_76 : decode cX9_copy 76 = .ok (.iload 6, 2) := by decide +kernel
theorem dX9_copy_78 : decode cX9_copy 78 = .ok (.istore 6, 2) := by decide +kernel
theorem dX9_copy_80 : decode cX9_copy 80 = .ok (.iload 6, 2) := by decide +kernel
theorem dX9_copy_82 : decode cX9_copy 82 = .ok (.ifCond .ge 6, 3) := by decide +kernel
theorem dX9_copy_85 : decode cX9_copy 85 = .ok (.iload 6, 2) := by decide +kernel
theorem dX9_copy_87 : decode cX9_copy 87 = .ok (.ireturn, 1) := by decide +kernel
theorem dX9_copy_88 : decode cX9_copy 88 = .ok (.iconst 0, 1) := by decide +kernel
theorem dX9_copy_89 : decode cX9_copy 89 = .ok (.istore 7, 2) := by decide +kernel
theorem dX9_copy_91 : decode cX9_copy 91 = .ok (.iload 7, 2) := by decide +kernel
theorem dX9_copy_93 : decode cX9_copy 93 = .ok (.iload 5, 2) := by decide +kernel
theorem dX9_copy_95 : decode cX9_copy 95 = .ok (.if_icmp .ge 30, 3) := by decide +kernel
theorem dX9_copy_98 : decode cX9_copy 98 = .ok (.aload_n 0, 1) := by decide +kernel
theorem dX9_copy_99 : decode cX9_copy 99 = .ok (.getfield 45, 3) := by decide +kernel
theorem dX9_copy_102 : decode cX9_copy 102 = .ok (.iload 7, 2) := by decide +kernel
theorem dX9_copy_104 : decode cX9_copy 104 = .ok (.aload_n 0, 1) := by decide +kernel
theorem dX9_copy_105 : decode cX9_copy 105 = .ok (.getfield 41, 3) := by decide +kernel
theorem dX9_copy_108 : decode cX9_copy 108 = .ok (.bipush 24, 2) := by decide +kernel
theorem dX9_copy_110 : decode cX9_copy 110 = .ok (.iload_n 1, 1) := by decide +kernel
theorem dX9_copy_111 : decode cX9_copy 111 = .ok (.imul, 1) := by decide +kernel
theorem dX9_copy_112 : decode cX9_copy 112 = .ok (.iload_n 2, 1) := by decide +kernel
theorem dX9_copy_113 : decode cX9_copy 113 = .ok (.iadd, 1) := by decide +kernel
theorem dX9_copy_114 : decode cX9_copy 114 = .ok (.iload 7, 2) := by decide +kernel
theorem dX9_copy_116 : decode cX9_copy 116 = .ok (.iadd, 1) := by decide +kernel
theorem dX9_copy_117 : decode cX9_copy 117 = .ok (.laload, 1) := by decide +kernel
theorem dX9_copy_118 : decode cX9_copy 118 = .ok (.lastore, 1) := by decide +kernel
theorem dX9_copy_119 : decode cX9_copy 119 = .ok (.iinc 7 1, 3) := by decide +kernel
theorem dX9_copy_122 : decode cX9_copy 122 = .ok (.goto (-31), 3) := by decide +kernel
theorem dX9_copy_125 : decode cX9_copy 125 = .ok (.iconst 0, 1) := by decide +kernel
theorem dX9_copy_126 : decode cX9_copy 126 = .ok (.istore 7, 2) := by decide +kernel
theorem dX9_copy_128 : decode cX9_copy 128 = .ok (.iload 7, 2) := by decide +kernel
theorem dX9_copy_130 : decode cX9_copy 130 = .ok (.iload 5, 2) := by decide +kernel
theorem dX9_copy_132 : decode cX9_copy 132 = .ok (.if_icmp .ge 31, 3) := by decide +kernel
theorem dX9_copy_135 : decode cX9_copy 135 = .ok (.aload_n 0, 1) := by decide +kernel
theorem dX9_copy_136 : decode cX9_copy 136 = .ok (.getfield 41, 3) := by decide +kernel
theorem dX9_copy_139 : decode cX9_copy 139 = .ok (.bipush 24, 2) := by decide +kernel
theorem dX9_copy_141 : decode cX9_copy 141 = .ok (.iload_n 3, 1) := by decide +kernel
theorem dX9_copy_142 : decode cX9_copy 142 = .ok (.imul, 1) := by decide +kernel
theorem dX9_copy_143 : decode cX9_copy 143 = .ok (.iload 4, 2) := by decide +kernel
theorem dX9_copy_145 : decode cX9_copy 145 = .ok (.iadd, 1) := by decide +kernel
theorem dX9_copy_146 : decode cX9_copy 146 = .ok (.iload 7, 2) := by decide +kernel
theorem dX9_copy_148 : decode cX9_copy 148 = .ok (.iadd, 1) := by decide +kernel
theorem dX9_copy_149 : decode cX9_copy 149 = .ok (.aload_n 0, 1) := by decide +kernel
theorem dX9_copy_150 : decode cX9_copy 150 = .ok (.getfield 45, 3) := by decide +kernel
theorem dX9_copy_153 : decode cX9_copy 153 = .ok (.iload 7, 2) := by decide +kernel
theorem dX9_copy_155 : decode cX9_copy 155 = .ok (.laload, 1) := by decide +kernel
theorem dX9_copy_156 : decode cX9_copy 156 = .ok (.lastore, 1) := by decide +kernel
theorem dX9_copy_157 : decode cX9_copy 157 = .ok (.iinc 7 1, 3) := by decide +kernel
theorem dX9_copy_160 : decode cX9_copy 160 = .ok (.goto (-32), 3) := by decide +kernel
theorem dX9_copy_163 : decode cX9_copy 163 = .ok (.iload 5, 2) := by decide +kernel
theorem dX9_copy_165 : decode cX9_copy 165 = .ok (.ireturn, 1) := by decide +kernel
