theorem dX9_become_11 : decode cX9_become 11 = .ok (.if_icmp .ge 21, 3) := by decide +kernel
theorem dX9_become_14 : decode cX9_become 14 = .ok (.aload_n 0, 1) := by decide +kernel
theorem dX9_become_15 : decode cX9_become 15 = .ok (.getfield 19, 3) := by decide +kernel
theorem dX9_become_18 : decode cX9_become 18 = .ok (.iload_n 2, 1) := by decide +kernel
theorem dX9_become_19 : decode cX9_become 19 = .ok (.aload_n 0, 1) := by decide +kernel
theorem dX9_become_20 : decode cX9_become 20 = .ok (.getfield 73, 3) := by decide +kernel
theorem dX9_become_23 : decode cX9_become 23 = .ok (.iload_n 2, 1) := by decide +kernel
theorem dX9_become_24 : decode cX9_become 24 = .ok (.baload, 1) := by decide +kernel
theorem dX9_become_25 : decode cX9_become 25 = .ok (.bastore, 1) := by decide +kernel
theorem dX9_become_26 : decode cX9_become 26 = .ok (.iinc 2 1, 3) := by decide +kernel
theorem dX9_become_29 : decode cX9_become 29 = .ok (.goto (-22), 3) := by decide +kernel
theorem dX9_become_32 : decode cX9_become 32 = .ok (.aload_n 0, 1) := by decide +kernel
theorem dX9_become_33 : decode cX9_become 33 = .ok (.iconst 0, 1) := by decide +kernel
theorem dX9_become_34 : decode cX9_become 34 = .ok (.putfield 125, 3) := by decide +kernel
theorem dX9_become_37 : decode cX9_become 37 = .ok (.aload_n 0, 1) := by decide +kernel
theorem dX9_become_38 : decode cX9_become 38 = .ok (.iconst 0, 1) := by decide +kernel
theorem dX9_become_39 : decode cX9_become 39 = .ok (.putfield 129, 3) := by decide +kernel
theorem dX9_become_42 : decode cX9_become 42 = .ok (.return_, 1) := by decide +kernel
theorem dX9_clearNew_0 : decode cX9_clearNew 0 = .ok (.iconst 0, 1) := by decide +kernel
theorem dX9_clearNew_1 : decode cX9_clearNew 1 = .ok (.istore_n 1, 1) := by decide +kernel
theorem dX9_clearNew_2 : decode cX9_clearNew 2 = .ok (.iload_n 1, 1) := by decide +kernel
theorem dX9_clearNew_3 : decode cX9_clearNew 3 = .ok (.sipush 1024, 3) := by decide +kernel
theorem dX9_clearNew_6 : decode cX9_clearNew 6 = .ok (.if_icmp .ge 16, 3) := by decide +kernel
theorem dX9_clearNew_9 : decode cX9_clearNew 9 = .ok (.aload_n 0, 1) := by decide +kernel
theorem dX9_clearNew_10 : decode cX9_clearNew 10 = .ok (.getfield 73, 3) := by decide +kernel
theorem dX9_clearNew_13 : decode cX9_clearNew 13 = .ok (.iload_n 1, 1) := by decide +kernel
theorem dX9_clearNew_14 : decode cX9_clearNew 14 = .ok (.iconst 0, 1) := by decide +kernel
theorem dX9_clearNew_15 : decode cX9_clearNew 15 = .ok (.bastore, 1) := by decide +kernel
theorem dX9_clearNew_16 : decode cX9_clearNew 16 = .ok (.iinc 1 1, 3) := by decide +kernel
theorem dX9_clearNew_19 : decode cX9_clearNew 19 = .ok (.goto (-17), 3) := by decide +kernel
theorem dX9_clearNew_22 : decode cX9_clearNew 22 = .ok (.return_, 1) := by decide +kernel
set_option maxRecDepth 20000 in
theorem ggX9_fold_X9_isFolded : GoodIn wsX9_fold wsX9_isFolded := goodIn_r _ [9, 10, 1, 11, 12, 13, 8, 14, 15, 16, 17, 18, 19, 20, 21, 22, 23, 24, 25, 3, 26, 27, 28, 29, 39, 40, 41, 42, 43, 44, 45, 46, 47, 48, 49, 50, 51, 52, 53, 54, 55, 56, 57, 58, 59, 60, 61, 62, 63, 64, 65, 66, 67, 68, 69, 70, 71, 72, 73, 74, 75, 76, 77, 78, 79, 80, 81, 82] (by decide +kernel) (by decide +kernel)
set_option maxRecDepth 20000 in
theorem gX9_fold_X9_isFolded : GoodIn wsX9_fold (wsV RX9 226 RX9 yX9_isFolded wsX9_isFolded) := goodIn_app (goodIn_of _ (by decide +kernel)) ggX9_fold_X9_isFolded
set_option maxRecDepth 20000 in
theorem ggX9_fold_X9_isFar : GoodIn wsX9_fold wsX9_isFar := goodIn_r _ [29, 21, 10, 39, 40, 41, 42, 43, 44, 45, 46, 47, 48, 49, 50, 51, 52, 53, 54, 55, 56, 57, 58, 59, 60, 61, 62, 63, 64, 65, 66, 67, 68, 69, 70, 71, 72, 73, 74, 75, 76, 77, 78, 79, 80, 81, 82] (by decide +kernel) (by decide +kernel)
set_option maxRecDepth 20000 in
theorem gX9_fold_X9_isFar : GoodIn wsX9_fold (wsV RX9 199 RX9 yX9_isFar wsX9_isFar) := goodIn_app (goodIn_of _ (by decide +kernel)) ggX9_fold_X9_isFar
set_option maxRecDepth 20000 in
theorem ggX9_fold_X9_clearNew : GoodIn wsX9_fold wsX9_clearNew := goodIn_r _ [33, 4, 39, 40, 41, 42, 43, 44, 45, 46, 47, 48, 49, 50, 51, 52, 53, 54, 55, 56, 57, 58, 59, 60, 61, 62, 63, 64, 65, 66, 67, 68, 69, 70, 71, 72, 73, 74, 75, 76, 77, 78, 79, 80, 81, 82] (by decide +kernel) (by decide +kernel)
set_option maxRecDepth 20000 in
theorem gX9_fold_X9_clearNew : GoodIn wsX9_fold (wsV RX9 285 RX9 yX9_clearNew wsX9_clearNew) := goodIn_app (goodIn_of _ (by decide +kernel)) ggX9_fold_X9_clearNew
set_option maxRecDepth 20000 in
theorem ggX9_fold_X9_become : GoodIn wsX9_fold wsX9_become := goodIn_r _ [37, 1, 3, 4, 20, 38, 39, 40, 41, 42, 43, 44, 45, 46, 47, 48, 49, 50, 51, 52, 53, 54, 55, 56, 57, 58, 59, 60, 61, 62, 63, 64, 65, 66, 67, 68, 69, 70, 71, 72, 73, 74, 75, 76, 77, 78, 79, 80, 81, 82] (by decide +kernel) (by decide +kernel)
set_option maxRecDepth 20000 in
theorem gX9_fold_X9_become : GoodIn wsX9_fold (wsV RX9 288 RX9 yX9_become wsX9_become) := goodIn_app (goodIn_of _ (by decide +kernel)) ggX9_fold_X9_become
theorem dX9_fold_0 : decode cX9_fold 0 = .ok (.aload_n 0, 1) := by decide +kernel
theorem dX9_fold_1 : decode cX9_fold 1 = .ok (.invokevirtual 226, 3) := by decide +kernel
theorem dX9_fold_4 : decode cX9_fold 4 = .ok (.ifCond .ne 6, 3) := by decide +kernel
theorem dX9_fold_7 : decode cX9_fold 7 = .ok (.bipush (-5), 2) := by decide +kernel
theorem dX9_fold_9 : decode cX9_fold 9 = .ok (.ireturn, 1) := by decide +kernel
theorem dX9_fold_10 : decode cX9_fold 10 = .ok (.iconst 0, 1) := by decide +kernel
theorem dX9_fold_11 : decode cX9_fold 11 = .ok (.istore_n 1, 1) := by decide +kernel
theorem dX9_fold_12 : decode cX9_fold 12 = .ok (.iconst 0, 1) := by decide +kernel
theorem dX9_fold_13 : decode cX9_fold 13 = .ok (.istore_n 2, 1) := by decide +kernel
theorem dX9_fold_14 : decode cX9_fold 14 = .ok (.iload_n 2, 1) := by decide +kernel
theorem dX9_fold_15 : decode cX9_fold 15 = .ok (.aload_n 0, 1) := by decide +kernel
theorem dX9_fold_16 : decode cX9_fold 16 = .ok (.getfield 116, 3) := by decide +kernel
theorem dX9_fold_19 : decode cX9_fold 19 = .ok (.if_icmp .ge 78, 3) := by decide +kernel
theorem dX9_fold_22 : decode cX9_fold 22 = .ok (.aload_n 0, 1) := by decide +kernel
theorem dX9_fold_23 : decode cX9_fold 23 = .ok (.getfield 76, 3) := by decide +kernel
theorem dX9_fold_26 : decode cX9_fold 26 = .ok (.iload_n 2, 1) := by decide +kernel
theorem dX9_fold_27 : decode cX9_fold 27 = .ok (.iconst (-1), 1) := by decide +kernel
theorem dX9_fold_28 : decode cX9_fold 28 = .ok (.iastore, 1) := by decide +kernel
theorem dX9_fold_29 : decode cX9_fold 29 = .ok (.iconst 0, 1) := by decide +kernel
theorem dX9_fold_30 : decode cX9_fold 30 = .ok (.istore_n 3, 1) := by decide +kernel
theorem dX9_fold_31 : decode cX9_fold 31 = .ok (.iload_n 3, 1) := by decide +kernel
theorem dX9_fold_32 : decode cX9_fold 32 = .ok (.iload_n 2, 1) := by decide +kernel
theorem dX9_fold_33 : decode cX9_fold 33 = .ok (.if_icmp .ge 39, 3) := by decide +kernel
theorem dX9_fold_36 : decode cX9_fold 36 = .ok (.aload_n 0, 1) := by decide +kernel
theorem dX9_fold_37 : decode cX9_fold 37 = .ok (.getfield 76, 3) := by decide +kernel
theorem dX9_fold_40 : decode cX9_fold 40 = .ok (.iload_n 2, 1) := by decide +kernel
theorem dX9_fold_41 : decode cX9_fold 41 = .ok (.aload_n 0, 1) := by decide +kernel
theorem dX9_fold_42 : decode cX9_fold 42 = .ok (.iload_n 2, 1) := by decide +kernel
theorem dX9_fold_43 : decode cX9_fold 43 = .ok (.iload_n 3, 1) := by decide +kernel
theorem dX9_fold_44 : decode cX9_fold 44 = .ok (.invokevirtual 199, 3) := by decide +kernel
theorem dX9_fold_47 : decode cX9_fold 47 = .ok (.ifCond .eq 12, 3) := by decide +kernel
theorem dX9_fold_50 : decode cX9_fold 50 = .ok (.aload_n 0, 1) := by decide +kernel
theorem dX9_fold_51 : decode cX9_fold 51 = .ok (.getfield 76, 3) := by decide +kernel
theorem dX9_fold_54 : decode cX9_fold 54 = .ok (.iload_n 3, 1) := by decide +kernel
theorem dX9_fold_55 : decode cX9_fold 55 = .ok (.iaload, 1) := by decide +kernel
theorem dX9_fold_56 : decode cX9_fold 56 = .ok (.goto 9, 3) := by decide +kernel
theorem dX9_fold_59 : decode cX9_fold 59 = .ok (.aload_n 0, 1) := by decide +kernel
theorem dX9_fold_60 : decode cX9_fold 60 = .ok (.getfield 76, 3) := by decide +kernel
theorem dX9_fold_63 : decode cX9_fold 63 = .ok (.iload_n 2, 1) := by decide +kernel
theorem dX9_fold_64 : decode cX9_fold 64 = .ok (.iaload, 1) := by decide +kernel
theorem dX9_fold_65 : decode cX9_fold 65 = .ok (.iastore, 1) := by decide +kernel
theorem dX9_fold_66 : decode cX9_fold 66 = .ok (.iinc 3 1, 3) := by decide +kernel
theorem dX9_fold_69 : decode cX9_fold 69 = .ok (.goto (-38), 3) := by decide +kernel
theorem dX9_fold_72 : decode cX9_fold 72 = .ok (.aload_n 0, 1) := by decide +kernel
theorem dX9_fold_73 : decode cX9_fold 73 = .ok (.getfield 76, 3) := by decide +kernel
theorem dX9_fold_76 : decode cX9_fold 76 = .ok (.iload_n 2, 1) := by decide +kernel
theorem dX9_fold_77 : decode cX9_fold 77 = .ok (.iaload, 1) := by decide +kernel
theorem dX9_fold_78 : decode cX9_fold 78 = .ok (.ifCond .ge 13, 3) := by decide +kernel
theorem dX9_fold_81 : decode cX9_fold 81 = .ok (.aload_n 0, 1) := by decide +kernel
theorem dX9_fold_82 : decode cX9_fold 82 = .ok (.getfield 76, 3) := by decide +kernel
theorem dX9_fold_85 : decode cX9_fold 85 = .ok (.iload_n 2, 1) := by decide +kernel
theorem dX9_fold_86 : decode cX9_fold 86 = .ok (.iload_n 1, 1) := by decide +kernel
theorem dX9_fold_87 : decode cX9_fold 87 = .ok (.iastore, 1) := by decide +kernel
theorem dX9_fold_88 : decode cX9_fold 88 = .ok (.iinc 1 1, 3) := by decide +kernel
theorem dX9_fold_91 : decode cX9_fold 91 = .ok (.iinc 2 1, 3) := by decide +kernel
theorem dX9_fold_94 : decode cX9_fold 94 = .ok (.goto (-80), 3) := by decide +kernel
theorem dX9_fold_97 : decode cX9_fold 97 = .ok (.aload_n 0, 1) := by decide +kernel
theorem dX9_fold_98 : decode cX9_fold 98 = .ok (.invokevirtual 285, 3) := by decide +kernel
theorem dX9_fold_101 : decode cX9_fold 101 = .ok (.iconst 0, 1) := by decide +kernel
theorem dX9_fold_102 : decode cX9_fold 102 = .ok (.istore_n 2, 1) := by decide +kernel
theorem dX9_fold_103 : decode cX9_fold 103 = .ok (.iload_n 2, 1) := by decide +kernel
theorem dX9_fold_104 : decode cX9_fold 104 = .ok (.aload_n 0, 1) := by decide +kernel
theorem dX9_fold_105 : decode cX9_fold 105 = .ok (.getfield 116, 3) := by decide +kernel
theorem dX9_fold_108 : decode cX9_fold 108 = .ok (.if_icmp .ge 76, 3) := by decide +kernel
theorem dX9_fold_111 : decode cX9_fold 111 = .ok (.iconst 0, 1) := by decide +kernel
theorem dX9_fold_112 : decode cX9_fold 112 = .ok (.istore_n 3, 1) := by decide +kernel
theorem dX9_fold_113 : decode cX9_fold 113 = .ok (.iload_n 3, 1) := by decide +kernel
theorem dX9_fold_114 : decode cX9_fold 114 = .ok (.aload_n 0, 1) := by decide +kernel
theorem dX9_fold_115 : decode cX9_fold 115 = .ok (.getfield 116, 3) := by decide +kernel
theorem dX9_fold_118 : decode cX9_fold 118 = .ok (.if_icmp .ge 60, 3) := by decide +kernel
theorem dX9_fold_121 : decode cX9_fold 121 = .ok (.aload_n 0, 1) := by decide +kernel
theorem dX9_fold_122 : decode cX9_fold 122 = .ok (.getfield 19, 3) := by decide +kernel
theorem dX9_fold_125 : decode cX9_fold 125 = .ok (.bipush 32, 2) := by decide +kernel
theorem dX9_fold_127 : decode cX9_fold 127 = .ok (.iload_n 2, 1) := by decide +kernel
theorem dX9_fold_128 : decode cX9_fold 128 = .ok (.imul, 1) := by decide +kernel
theorem dX9_fold_129 : decode cX9_fold 129 = .ok (.iload_n 3, 1) := by decide +kernel
theorem dX9_fold_130 : decode cX9_fold 130 = .ok (.iadd, 1) := by decide +kernel
theorem dX9_fold_131 : decode cX9_fold 131 = .ok (.baload, 1) := by decide +kernel
theorem dX9_fold_132 : decode cX9_fold 132 = .ok (.ifCond .eq 40, 3) := by decide +kernel
theorem dX9_fold_135 : decode cX9_fold 135 = .ok (.aload_n 0, 1) := by decide +kernel
theorem dX9_fold_136 : decode cX9_fold 136 = .ok (.getfield 76, 3) := by decide +kernel
theorem dX9_fold_139 : decode cX9_fold 139 = .ok (.iload_n 2, 1) := by decide +kernel
theorem dX9_fold_140 : decode cX9_fold 140 = .ok (.iaload, 1) := by decide +kernel
theorem dX9_fold_141 : decode cX9_fold 141 = .ok (.aload_n 0, 1) := by decide +kernel
theorem dX9_fold_142 : decode cX9_fold 142 = .ok (.getfield 76, 3) := by decide +kernel
theorem dX9_fold_145 : decode cX9_fold 145 = .ok (.iload_n 3, 1) := by decide +kernel
theorem dX9_fold_146 : decode cX9_fold 146 = .ok (.iaload, 1) := by decide +kernel
theorem dX9_fold_147 : decode cX9_fold 147 = .ok (.if_icmp .eq 25, 3) := by decide +kernel
theorem dX9_fold_150 : decode cX9_fold 150 = .ok (.aload_n 0, 1) := by decide +kernel
theorem dX9_fold_151 : decode cX9_fold 151 = .ok (.getfield 73, 3) := by decide +kernel
theorem dX9_fold_154 : decode cX9_fold 154 = .ok (.bipush 32, 2) := by decide +kernel
theorem dX9_fold_156 : decode cX9_fold 156 = .ok (.aload_n 0, 1) := by decide +kernel
theorem dX9_fold_157 : decode cX9_fold 157 = .ok (.getfield 76, 3) := by decide +kernel
theorem dX9_fold_160 : decode cX9_fold 160 = .ok (.iload_n 2, 1) := by decide +kernel
theorem dX9_fold_161 : decode cX9_fold 161 = .ok (.iaload, 1) := by decide +kernel
theorem dX9_fold_162 : decode cX9_fold 162 = .ok (.imul, 1) := by decide +kernel
theorem dX9_fold_163 : decode cX9_fold 163 = .ok (.aload_n 0, 1) := by decide +kernel
theorem dX9_fold_164 : decode cX9_fold 164 = .ok (.getfield 76, 3) := by decide +kernel
theorem dX9_fold_167 : decode cX9_fold 167 = .ok (.iload_n 3, 1) := by decide +kernel
theorem dX9_fold_168 : decode cX9_fold 168 = .ok (.iaload, 1) := by decide +kernel
theorem dX9_fold_169 : decode cX9_fold 169 = .ok (.iadd, 1) := by decide +kernel
theorem dX9_fold_170 : decode cX9_fold 170 = .ok (.iconst 1, 1) := by decide +kernel
theorem dX9_fold_171 : decode cX9_fold 171 = .ok (.bastore, 1) := by decide +kernel
theorem dX9_fold_172 : decode cX9_fold 172 = .ok (.iinc 3 1, 3) := by decide +kernel
theorem dX9_fold_175 : decode cX9_fold 175 = .ok (.goto (-62), 3) := by decide +kernel
theorem dX9_fold_178 : decode cX9_fold 178 = .ok (.iinc 2 1, 3) := by decide +kernel
theorem dX9_fold_181 : decode cX9_fold 181 = .ok (.goto (-78), 3) := by decide +kernel
theorem dX9_fold_184 : decode cX9_fold 184 = .ok (.aload_n 0, 1) := by decide +kernel
theorem dX9_fold_185 : decode cX9_fold 185 = .ok (.iload_n 1, 1) := by decide +kernel
theorem dX9_fold_186 : decode cX9_fold 186 = .ok (.invokevirtual 288, 3) := by decide +kernel
theorem dX9_fold_189 : decode cX9_fold 189 = .ok (.iload_n 1, 1) := by decide +kernel
theorem dX9_fold_190 : decode cX9_fold 190 = .ok (.ireturn, 1) := by decide +kernel
set_option maxRecDepth 20000 in
theorem ggX9_half_X9_isWhole : GoodIn wsX9_half wsX9_isWhole := goodIn_r _ [9, 10, 11, 12, 13, 8, 14, 15, 16, 1, 3, 17, 18, 19, 20, 21, 35, 36, 37, 38, 39, 40, 41, 42, 43, 44, 45, 46, 47, 48, 49, 50, 51, 52, 53, 54, 55, 56, 57, 58, 59, 60, 61, 62, 63, 64, 65, 66, 67, 68, 69, 70, 71, 72, 73, 74, 75, 76, 77, 78] (by decide +kernel) (by decide +kernel)
set_option maxRecDepth 20000 in
theorem gX9_half_X9_isWhole : GoodIn wsX9_half (wsV RX9 195 RX9 yX9_isWhole wsX9_isWhole) := goodIn_app (goodIn_of _ (by decide +kernel)) ggX9_half_X9_isWhole
set_option maxRecDepth 20000 in
theorem ggX9_half_X9_isOfSides : GoodIn wsX9_half wsX9_isOfSides := goodIn_r _ [25, 1, 21, 3, 11, 12, 13, 8, 14, 15, 16, 10, 17, 18, 19, 20, 35, 36, 37, 38, 39, 40, 41, 42, 43, 44, 45, 46, 47, 48, 49, 50, 51, 52, 53, 54, 55, 56, 57, 58, 59, 60, 61, 62, 63, 64, 65, 66, 67, 68, 69, 70, 71, 72, 73, 74, 75, 76, 77, 78] (by decide +kernel) (by decide +kernel)
set_option maxRecDepth 20000 in
theorem gX9_half_X9_isOfSides : GoodIn wsX9_half (wsV RX9 223 RX9 yX9_isOfSides wsX9_isOfSides) := goodIn_app (goodIn_of _ (by decide +kernel)) ggX9_half_X9_isOfSides
set_option maxRecDepth 20000 in
theorem ggX9_half_X9_clearNew : GoodIn wsX9_half wsX9_clearNew := goodIn_r _ [29, 4, 35, 36, 37, 38, 39, 40, 41, 42, 43, 44, 45, 46, 47, 48, 49, 50, 51, 52, 53, 54, 55, 56, 57, 58, 59, 60, 61, 62, 63, 64, 65, 66, 67, 68, 69, 70, 71, 72, 73, 74, 75, 76, 77, 78] (by decide +kernel) (by decide +kernel)
set_option maxRecDepth 20000 in
theorem gX9_half_X9_clearNew : GoodIn wsX9_half (wsV RX9 285 RX9 yX9_clearNew wsX9_clearNew) := goodIn_app (goodIn_of _ (by decide +kernel)) ggX9_half_X9_clearNew
set_option maxRecDepth 20000 in
theorem ggX9_half_X9_become : GoodIn wsX9_half wsX9_become := goodIn_r _ [33, 1, 21, 4, 15, 34, 35, 36, 37, 38, 39, 40, 41, 42, 43, 44, 45, 46, 47, 48, 49, 50, 51, 52, 53, 54, 55, 56, 57, 58, 59, 60, 61, 62, 63, 64, 65, 66, 67, 68, 69, 70, 71, 72, 73, 74, 75, 76, 77, 78] (by decide +kernel) (by decide +kernel)
set_option maxRecDepth 20000 in
theorem gX9_half_X9_become : GoodIn wsX9_half (wsV RX9 288 RX9 yX9_become wsX9_become) := goodIn_app (goodIn_of _ (by decide +kernel)) ggX9_half_X9_become
theorem dX9_half_0 : decode cX9_half 0 = .ok (.aload_n 0, 1) := by decide +kernel
theorem dX9_half_1 : decode cX9_half 1 = .ok (.invokevirtual 195, 3) := by decide +kernel
theorem dX9_half_4 : decode cX9_half 4 = .ok (.ifCond .eq 10, 3) := by decide +kernel
theorem dX9_half_7 : decode cX9_half 7 = .ok (.aload_n 0, 1) := by decide +kernel
theorem dX9_half_8 : decode cX9_half 8 = .ok (.invokevirtual 223, 3) := by decide +kernel
theorem dX9_half_11 : decode cX9_half 11 = .ok (.ifCond .ne 6, 3) := by decide +kernel
theorem dX9_half_14 : decode cX9_half 14 = .ok (.bipush (-5), 2) := by decide +kernel
theorem dX9_half_16 : decode cX9_half 16 = .ok (.ireturn, 1) := by decide +kernel
theorem dX9_half_17 : decode cX9_half 17 = .ok (.iconst 0, 1) := by decide +kernel
theorem dX9_half_18 : decode cX9_half 18 = .ok (.istore_n 1, 1) := by decide +kernel
theorem dX9_half_19 : decode cX9_half 19 = .ok (.iconst 0, 1) := by decide +kernel
theorem dX9_half_20 : decode cX9_half 20 = .ok (.istore_n 2, 1) := by decide +kernel
theorem dX9_half_21 : decode cX9_half 21 = .ok (.iload_n 2, 1) := by decide +kernel
theorem dX9_half_22 : decode cX9_half 22 = .ok (.aload_n 0, 1) := by decide +kernel
theorem dX9_half_23 : decode cX9_half 23 = .ok (.getfield 116, 3) := by decide +kernel
theorem dX9_half_26 : decode cX9_half 26 = .ok (.if_icmp .ge 50, 3) := by decide +kernel
theorem dX9_half_29 : decode cX9_half 29 = .ok (.aload_n 0, 1) := by decide +kernel
theorem dX9_half_30 : decode cX9_half 30 = .ok (.getfield 76, 3) := by decide +kernel
theorem dX9_half_33 : decode cX9_half 33 = .ok (.iload_n 2, 1) := by decide +kernel
theorem dX9_half_34 : decode cX9_half 34 = .ok (.aload_n 0, 1) := by decide +kernel
theorem dX9_half_35 : decode cX9_half 35 = .ok (.getfield 39, 3) := by decide +kernel
theorem dX9_half_38 : decode cX9_half 38 = .ok (.iload_n 2, 1) := by decide +kernel
theorem dX9_half_39 : decode cX9_half 39 = .ok (.iaload, 1) := by decide +kernel
theorem dX9_half_40 : decode cX9_half 40 = .ok (.iconst 2, 1) := by decide +kernel
theorem dX9_half_41 : decode cX9_half 41 = .ok (.irem, 1) := by decide +kernel
theorem dX9_half_42 : decode cX9_half 42 = .ok (.ifCond .ne 7, 3) := by decide +kernel
theorem dX9_half_45 : decode cX9_half 45 = .ok (.iload_n 1, 1) := by decide +kernel
theorem dX9_half_46 : decode cX9_half 46 = .ok (.goto 4, 3) := by decide +kernel
theorem dX9_half_49 : decode cX9_half 49 = .ok (.iconst (-1), 1) := by decide +kernel
theorem dX9_half_50 : decode cX9_half 50 = .ok (.iastore, 1) := by decide +kernel
theorem dX9_half_51 : decode cX9_half 51 = .ok (.iload_n 1, 1) := by decide +kernel
theorem dX9_half_52 : decode cX9_half 52 = .ok (.aload_n 0, 1) := by decide +kernel
theorem dX9_half_53 : decode cX9_half 53 = .ok (.getfield 39, 3) := by decide +kernel
theorem dX9_half_56 : decode cX9_half 56 = .ok (.iload_n 2, 1) := by decide +kernel
theorem dX9_half_57 : decode cX9_half 57 = .ok (.iaload, 1) := by decide +kernel
theorem dX9_half_58 : decode cX9_half 58 = .ok (.iconst 2, 1) := by decide +kernel
theorem dX9_half_59 : decode cX9_half 59 = .ok (.irem, 1) := by decide +kernel
theorem dX9_half_60 : decode cX9_half 60 = .ok (.ifCond .ne 7, 3) := by decide +kernel
theorem dX9_half_63 : decode cX9_half 63 = .ok (.iconst 1, 1) := by decide +kernel
theorem dX9_half_64 : decode cX9_half 64 = .ok (.goto 4, 3) := by decide +kernel
theorem dX9_half_67 : decode cX9_half 67 = .ok (.iconst 0, 1) := by decide +kernel
theorem dX9_half_68 : decode cX9_half 68 = .ok (.iadd, 1) := by decide +kernel
theorem dX9_half_69 : decode cX9_half 69 = .ok (.istore_n 1, 1) := by decide +kernel
theorem dX9_half_70 : decode cX9_half 70 = .ok (.iinc 2 1, 3) := by decide +kernel
theorem dX9_half_73 : decode cX9_half 73 = .ok (.goto (-52), 3) := by decide +kernel
theorem dX9_half_76 : decode cX9_half 76 = .ok (.aload_n 0, 1) := by decide +kernel
theorem dX9_half_77 : decode cX9_half 77 = .ok (.invokevirtual 285, 3) := by decide +kernel
theorem dX9_half_80 : decode cX9_half 80 = .ok (.iconst 0, 1) := by decide +kernel
theorem dX9_half_81 : decode cX9_half 81 = .ok (.istore_n 2, 1) := by decide +kernel
theorem dX9_half_82 : decode cX9_half 82 = .ok (.iload_n 2, 1) := by decide +kernel
theorem dX9_half_83 : decode cX9_half 83 = .ok (.aload_n 0, 1) := by decide +kernel
theorem dX9_half_84 : decode cX9_half 84 = .ok (.getfield 116, 3) := by decide +kernel
theorem dX9_half_87 : decode cX9_half 87 = .ok (.if_icmp .ge 80, 3) := by decide +kernel
theorem dX9_half_90 : decode cX9_half 90 = .ok (.iconst 0, 1) := by decide +kernel
theorem dX9_half_91 : decode cX9_half 91 = .ok (.istore_n 3, 1) := by decide +kernel
theorem dX9_half_92 : decode cX9_half 92 = .ok (.iload_n 3, 1) := by decide +kernel
theorem dX9_half_93 : decode cX9_half 93 = .ok (.aload_n 0, 1) := by decide +kernel
theorem dX9_half_94 : decode cX9_half 94 = .ok (.getfield 116, 3) := by decide +kernel
theorem dX9_half_97 : decode cX9_half 97 = .ok (.if_icmp .ge 64, 3) := by decide +kernel
theorem dX9_half_100 : decode cX9_half 100 = .ok (.aload_n 0, 1) := by decide +kernel
theorem dX9_half_101 : decode cX9_half 101 = .ok (.getfield 76, 3) := by decide +kernel
theorem dX9_half_104 : decode cX9_half 104 = .ok (.iload_n 2, 1) := by decide +kernel
theorem dX9_half_105 : decode cX9_half 105 = .ok (.iaload, 1) := by decide +kernel
theorem dX9_half_106 : decode cX9_half 106 = .ok (.ifCond .lt 49, 3) := by decide +kernel
theorem dX9_half_109 : decode cX9_half 109 = .ok (.aload_n 0, 1) := by decide +kernel
theorem dX9_half_110 : decode cX9_half 110 = .ok (.getfield 76, 3) := by decide +kernel
theorem dX9_half_113 : decode cX9_half 113 = .ok (.iload_n 3, 1) := by decide +kernel
theorem dX9_half_114 : decode cX9_half 114 = .ok (.iaload, 1) := by decide +kernel
theorem dX9_half_115 : decode cX9_half 115 = .ok (.ifCond .lt 40, 3) := by decide +kernel
theorem dX9_half_118 : decode cX9_half 118 = .ok (.aload_n 0, 1) := by decide +kernel
theorem dX9_half_119 : decode cX9_half 119 = .ok (.getfield 39, 3) := by decide +kernel
theorem dX9_half_122 : decode cX9_half 122 = .ok (.bipush 32, 2) := by decide +kernel
theorem dX9_half_124 : decode cX9_half 124 = .ok (.iload_n 2, 1) := by decide +kernel
theorem dX9_half_125 : decode cX9_half 125 = .ok (.imul, 1) := by decide +kernel
theorem dX9_half_126 : decode cX9_half 126 = .ok (.iload_n 3, 1) := by decide +kernel
theorem dX9_half_127 : decode cX9_half 127 = .ok (.iadd, 1) := by decide +kernel
theorem dX9_half_128 : decode cX9_half 128 = .ok (.iaload, 1) := by decide +kernel
theorem dX9_half_129 : decode cX9_half 129 = .ok (.iconst 2, 1) := by decide +kernel
theorem dX9_half_130 : decode cX9_half 130 = .ok (.if_icmp .ne 25, 3) := by decide +kernel
theorem dX9_half_133 : decode cX9_half 133 = .ok (.aload_n 0, 1) := by decide +kernel
theorem dX9_half_134 : decode cX9_half 134 = .ok (.getfield 73, 3) := by decide +kernel
theorem dX9_half_137 : decode cX9_half 137 = .ok (.bipush 32, 2) := by decide +kernel
theorem dX9_half_139 : decode cX9_half 139 = .ok (.aload_n 0, 1) := by decide +kernel
theorem dX9_half_140 : decode cX9_half 140 = .ok (.getfield 76, 3) := by decide +kernel
theorem dX9_half_143 : decode cX9_half 143 = .ok (.iload_n 2, 1) := by decide +kernel
theorem dX9_half_144 : decode cX9_half 144 = .ok (.iaload, 1) := by decide +kernel
theorem dX9_half_145 : decode cX9_half 145 = .ok (.imul, 1) := by decide +kernel
theorem dX9_half_146 : decode cX9_half 146 = .ok (.aload_n 0, 1) := by decide +kernel
theorem dX9_half_147 : decode cX9_half 147 = .ok (.getfield 76, 3) := by decide +kernel
theorem dX9_half_150 : decode cX9_half 150 = .ok (.iload_n 3, 1) := by decide +kernel
theorem dX9_half_151 : decode cX9_half 151 = .ok (.iaload, 1) := by decide +kernel
theorem dX9_half_152 : decode cX9_half 152 = .ok (.iadd, 1) := by decide +kernel
theorem dX9_half_153 : decode cX9_half 153 = .ok (.iconst 1, 1) := by decide +kernel
theorem dX9_half_154 : decode cX9_half 154 = .ok (.bastore, 1) := by decide +kernel
theorem dX9_half_155 : decode cX9_half 155 = .ok (.iinc 3 1, 3) := by decide +kernel
theorem dX9_half_158 : decode cX9_half 158 = .ok (.goto (-66), 3) := by decide +kernel
theorem dX9_half_161 : decode cX9_half 161 = .ok (.iinc 2 1, 3) := by decide +kernel
theorem dX9_half_164 : decode cX9_half 164 = .ok (.goto (-82), 3) := by decide +kernel
theorem dX9_half_167 : decode cX9_half 167 = .ok (.aload_n 0, 1) := by decide +kernel
theorem dX9_half_168 : decode cX9_half 168 = .ok (.iload_n 1, 1) := by decide +kernel
theorem dX9_half_169 : decode cX9_half 169 = .ok (.invokevirtual 288, 3) := by decide +kernel
theorem dX9_half_172 : decode cX9_half 172 = .ok (.iload_n 1, 1) := by decide +kernel
theorem dX9_half_173 : decode cX9_half 173 = .ok (.ireturn, 1) := by decide +kernel
set_option maxRecDepth 20000 in
theorem ggX9_twice_X9_clearNew : GoodIn wsX9_twice wsX9_clearNew := goodIn_r _ [8, 3, 15, 16, 17, 18, 19, 20, 21, 22, 23, 24, 25, 26, 27, 28, 29, 30, 31, 32, 33, 34, 35, 36, 37, 38, 39, 40, 41, 42, 43, 44, 45, 46, 47, 48, 49, 50, 51, 52, 53, 54, 55, 56, 57, 58] (by decide +kernel) (by decide +kernel)
set_option maxRecDepth 20000 in
theorem gX9_twice_X9_clearNew : GoodIn wsX9_twice (wsV RX9 285 RX9 yX9_clearNew wsX9_clearNew) := goodIn_app (goodIn_of _ (by decide +kernel)) ggX9_twice_X9_clearNew
set_option maxRecDepth 20000 in
theorem ggX9_twice_X9_become : GoodIn wsX9_twice wsX9_become := goodIn_r _ [12, 1, 2, 3, 13, 14, 15, 16, 17, 18, 19, 20, 21, 22, 23, 24, 25, 26, 27, 28, 29, 30, 31, 32, 33, 34, 35, 36, 37, 38, 39, 40, 41, 42, 43, 44, 45, 46, 47, 48, 49, 50, 51, 52, 53, 54, 55, 56, 57, 58] (by decide +kernel) (by decide +kernel)
set_option maxRecDepth 20000 in
theorem gX9_twice_X9_become : GoodIn wsX9_twice (wsV RX9 288 RX9 yX9_become wsX9_become) := goodIn_app (goodIn_of _ (by decide +kernel)) ggX9_twice_X9_become
theorem dX9_twice_0 : decode cX9_twice 0 = .ok (.iconst 2, 1) := by decide +kernel
theorem dX9_twice_1 : decode cX9_twice 1 = .ok (.aload_n 0, 1) := by decide +kernel
theorem dX9_twice_2 : decode cX9_twice 2 = .ok (.getfield 116, 3) := by decide +kernel
theorem dX9_twice_5 : decode cX9_twice 5 = .ok (.imul, 1) := by decide +kernel
theorem dX9_twice_6 : decode cX9_twice 6 = .ok (.bipush 32, 2) := by decide +kernel
theorem dX9_twice_8 : decode cX9_twice 8 = .ok (.if_icmp .le 6, 3) := by decide +kernel
theorem dX9_twice_11 : decode cX9_twice 11 = .ok (.bipush (-2), 2) := by decide +kernel
theorem dX9_twice_13 : decode cX9_twice 13 = .ok (.ireturn, 1) := by decide +kernel
theorem dX9_twice_14 : decode cX9_twice 14 = .ok (.aload_n 0, 1) := by decide +kernel
theorem dX9_twice_15 : decode cX9_twice 15 = .ok (.invokevirtual 285, 3) := by decide +kernel
theorem dX9_twice_18 : decode cX9_twice 18 = .ok (.iconst 0, 1) := by decide +kernel
theorem dX9_twice_19 : decode cX9_twice 19 = .ok (.istore_n 1, 1) := by decide +kernel
theorem dX9_twice_20 : decode cX9_twice 20 = .ok (.iload_n 1, 1) := by decide +kernel
theorem dX9_twice_21 : decode cX9_twice 21 = .ok (.aload_n 0, 1) := by decide +kernel
theorem dX9_twice_22 : decode cX9_twice 22 = .ok (.getfield 116, 3) := by decide +kernel
theorem dX9_twice_25 : decode cX9_twice 25 = .ok (.if_icmp .ge 73, 3) := by decide +kernel
theorem dX9_twice_28 : decode cX9_twice 28 = .ok (.iconst 0, 1) := by decide +kernel
theorem dX9_twice_29 : decode cX9_twice 29 = .ok (.istore_n 2, 1) := by decide +kernel
theorem dX9_twice_30 : decode cX9_twice 30 = .ok (.iload_n 2, 1) := by decide +kernel
theorem dX9_twice_31 : decode cX9_twice 31 = .ok (.aload_n 0, 1) := by decide +kernel
theorem dX9_twice_32 : decode cX9_twice 32 = .ok (.getfield 116, 3) := by decide +kernel
theorem dX9_twice_35 : decode cX9_twice 35 = .ok (.if_icmp .ge 57, 3) := by decide +kernel
theorem dX9_twice_38 : decode cX9_twice 38 = .ok (.aload_n 0, 1) := by decide +kernel
theorem dX9_twice_39 : decode cX9_twice 39 = .ok (.getfield 19, 3) := by decide +kernel
theorem dX9_twice_42 : decode cX9_twice 42 = .ok (.bipush 32, 2) := by decide +kernel
theorem dX9_twice_44 : decode cX9_twice 44 = .ok (.iload_n 1, 1) := by decide +kernel
theorem dX9_twice_45 : decode cX9_twice 45 = .ok (.imul, 1) := by decide +kernel
theorem dX9_twice_46 : decode cX9_twice 46 = .ok (.iload_n 2, 1) := by decide +kernel
theorem dX9_twice_47 : decode cX9_twice 47 = .ok (.iadd, 1) := by decide +kernel
theorem dX9_twice_48 : decode cX9_twice 48 = .ok (.baload, 1) := by decide +kernel
theorem dX9_twice_49 : decode cX9_twice 49 = .ok (.ifCond .eq 37, 3) := by decide +kernel
theorem dX9_twice_52 : decode cX9_twice 52 = .ok (.aload_n 0, 1) := by decide +kernel
theorem dX9_twice_53 : decode cX9_twice 53 = .ok (.getfield 73, 3) := by decide +kernel
theorem dX9_twice_56 : decode cX9_twice 56 = .ok (.bipush 32, 2) := by decide +kernel
theorem dX9_twice_58 : decode cX9_twice 58 = .ok (.iload_n 1, 1) := by decide +kernel
theorem dX9_twice_59 : decode cX9_twice 59 = .ok (.imul, 1) := by decide +kernel
theorem dX9_twice_60 : decode cX9_twice 60 = .ok (.aload_n 0, 1) := by decide +kernel
theorem dX9_twice_61 : decode cX9_twice 61 = .ok (.getfield 116, 3) := by decide +kernel
theorem dX9_twice_64 : decode cX9_twice 64 = .ok (.iadd, 1) := by decide +kernel
theorem dX9_twice_65 : decode cX9_twice 65 = .ok (.iload_n 2, 1) := by decide +kernel
theorem dX9_twice_66 : decode cX9_twice 66 = .ok (.iadd, 1) := by decide +kernel
theorem dX9_twice_67 : decode cX9_twice 67 = .ok (.iconst 1, 1) := by decide +kernel
theorem dX9_twice_68 : decode cX9_twice 68 = .ok (.bastore, 1) := by decide +kernel
theorem dX9_twice_69 : decode cX9_twice 69 = .ok (.aload_n 0, 1) := by decide +kernel
theorem dX9_twice_70 : decode cX9_twice 70 = .ok (.getfield 73, 3) := by decide +kernel
theorem dX9_twice_73 : decode cX9_twice 73 = .ok (.bipush 32, 2) := by decide +kernel
theorem dX9_twice_75 : decode cX9_twice 75 = .ok (.aload_n 0, 1) := by decide +kernel
theorem dX9_twice_76 : decode cX9_twice 76 = .ok (.getfield 116, 3) := by decide +kernel
theorem dX9_twice_79 : decode cX9_twice 79 = .ok (.iload_n 2, 1) := by decide +kernel
theorem dX9_twice_80 : decode cX9_twice 80 = .ok (.iadd, 1) := by decide +kernel
theorem dX9_twice_81 : decode cX9_twice 81 = .ok (.imul, 1) := by decide +kernel
theorem dX9_twice_82 : decode cX9_twice 82 = .ok (.iload_n 1, 1) := by decide +kernel
theorem dX9_twice_83 : decode cX9_twice 83 = .ok (.iadd, 1) := by decide +kernel
theorem dX9_twice_84 : decode cX9_twice 84 = .ok (.iconst 1, 1) := by decide +kernel
theorem dX9_twice_85 : decode cX9_twice 85 = .ok (.bastore, 1) := by decide +kernel
theorem dX9_twice_86 : decode cX9_twice 86 = .ok (.iinc 2 1, 3) := by decide +kernel
theorem dX9_twice_89 : decode cX9_twice 89 = .ok (.goto (-59), 3) := by decide +kernel
theorem dX9_twice_92 : decode cX9_twice 92 = .ok (.iinc 1 1, 3) := by decide +kernel
theorem dX9_twice_95 : decode cX9_twice 95 = .ok (.goto (-75), 3) := by decide +kernel
theorem dX9_twice_98 : decode cX9_twice 98 = .ok (.aload_n 0, 1) := by decide +kernel
theorem dX9_twice_99 : decode cX9_twice 99 = .ok (.iconst 2, 1) := by decide +kernel
theorem dX9_twice_100 : decode cX9_twice 100 = .ok (.aload_n 0, 1) := by decide +kernel
theorem dX9_twice_101 : decode cX9_twice 101 = .ok (.getfield 116, 3) := by decide +kernel
theorem dX9_twice_104 : decode cX9_twice 104 = .ok (.imul, 1) := by decide +kernel
theorem dX9_twice_105 : decode cX9_twice 105 = .ok (.invokevirtual 288, 3) := by decide +kernel
theorem dX9_twice_108 : decode cX9_twice 108 = .ok (.aload_n 0, 1) := by decide +kernel
theorem dX9_twice_109 : decode cX9_twice 109 = .ok (.getfield 116, 3) := by decide +kernel
theorem dX9_twice_112 : decode cX9_twice 112 = .ok (.ireturn, 1) := by decide +kernel
set_option maxRecDepth 20000 in
theorem ggX9_power__X9_measure : GoodIn wsX9_power_ wsX9_measure := goodIn_r _ [8, 9, 10, 11, 1, 3, 12, 13, 14, 7, 15, 16, 34, 35, 36, 37, 38, 39, 40, 41, 42, 43, 44, 45, 46, 47, 48, 49, 50, 51, 52, 53, 54, 55, 56, 57, 58, 59, 60, 61, 62, 63, 64, 65, 66, 67, 68, 69, 70, 71, 72, 73, 74, 75, 76, 77] (by decide +kernel) (by decide +kernel)
set_option maxRecDepth 20000 in
theorem gX9_power__X9_measure : GoodIn wsX9_power_ (wsV RX9 186 RX9 yX9_measure wsX9_measure) := goodIn_app (goodIn_of _ (by decide +kernel)) ggX9_power__X9_measure
set_option maxRecDepth 20000 in
theorem ggX9_power__X9_clearNew : GoodIn wsX9_power_ wsX9_clearNew := goodIn_r _ [20, 2, 34, 35, 36, 37, 38, 39, 40, 41, 42, 43, 44, 45, 46, 47, 48, 49, 50, 51, 52, 53, 54, 55, 56, 57, 58, 59, 60, 61, 62, 63, 64, 65, 66, 67, 68, 69, 70, 71, 72, 73, 74, 75, 76, 77] (by decide +kernel) (by decide +kernel)
set_option maxRecDepth 20000 in
theorem gX9_power__X9_clearNew : GoodIn wsX9_power_ (wsV RX9 285 RX9 yX9_clearNew wsX9_clearNew) := goodIn_app (goodIn_of _ (by decide +kernel)) ggX9_power__X9_clearNew
set_option maxRecDepth 20000 in
theorem ggX9_power__X9_become : GoodIn wsX9_power_ wsX9_become := goodIn_r _ [24, 1, 16, 2, 9, 25, 34, 35, 36, 37, 38, 39, 40, 41, 42, 43, 44, 45, 46, 47, 48, 49, 50, 51, 52, 53, 54, 55, 56, 57, 58, 59, 60, 61, 62, 63, 64, 65, 66, 67, 68, 69, 70, 71, 72, 73, 74, 75, 76, 77] (by decide +kernel) (by decide +kernel)
set_option maxRecDepth 20000 in
theorem gX9_power__X9_become : GoodIn wsX9_power_ (wsV RX9 288 RX9 yX9_become wsX9_become) := goodIn_app (goodIn_of _ (by decide +kernel)) ggX9_power__X9_become
set_option maxRecDepth 20000 in
theorem ggX9_power__X9_roads : GoodIn wsX9_power_ wsX9_roads := goodIn_r _ [29, 1, 30, 31, 32, 7, 33, 16, 34, 35, 36, 37, 38, 39, 40, 41, 42, 43, 44, 45, 46, 47, 48, 49, 50, 51, 52, 53, 54, 55, 56, 57, 58, 59, 60, 61, 62, 63, 64, 65, 66, 67, 68, 69, 70, 71, 72, 73, 74, 75, 76, 77] (by decide +kernel) (by decide +kernel)
set_option maxRecDepth 20000 in
theorem gX9_power__X9_roads : GoodIn wsX9_power_ (wsV RX9 213 RX9 yX9_roads wsX9_roads) := goodIn_app (goodIn_of _ (by decide +kernel)) ggX9_power__X9_roads
theorem dX9_power__0 : decode cX9_power_ 0 = .ok (.iload_n 1, 1) := by decide +kernel
theorem dX9_power__1 : decode cX9_power_ 1 = .ok (.iconst 1, 1) := by decide +kernel
theorem dX9_power__2 : decode cX9_power_ 2 = .ok (.if_icmp .ge 5, 3) := by decide +kernel
theorem dX9_power__5 : decode cX9_power_ 5 = .ok (.iconst (-1), 1) := by decide +kernel
theorem dX9_power__6 : decode cX9_power_ 6 = .ok (.ireturn, 1) := by decide +kernel
theorem dX9_power__7 : decode cX9_power_ 7 = .ok (.aload_n 0, 1) := by decide +kernel
theorem dX9_power__8 : decode cX9_power_ 8 = .ok (.invokevirtual 186, 3) := by decide +kernel
theorem dX9_power__11 : decode cX9_power_ 11 = .ok (.aload_n 0, 1) := by decide +kernel
theorem dX9_power__12 : decode cX9_power_ 12 = .ok (.invokevirtual 285, 3) := by decide +kernel
theorem dX9_power__15 : decode cX9_power_ 15 = .ok (.iconst 0, 1) := by decide +kernel
theorem dX9_power__16 : decode cX9_power_ 16 = .ok (.istore_n 2, 1) := by decide +kernel
theorem dX9_power__17 : decode cX9_power_ 17 = .ok (.iload_n 2, 1) := by decide +kernel
theorem dX9_power__18 : decode cX9_power_ 18 = .ok (.aload_n 0, 1) := by decide +kernel
theorem dX9_power__19 : decode cX9_power_ 19 = .ok (.getfield 116, 3) := by decide +kernel
theorem dX9_power__22 : decode cX9_power_ 22 = .ok (.if_icmp .ge 72, 3) := by decide +kernel
theorem dX9_power__25 : decode cX9_power_ 25 = .ok (.iconst 0, 1) := by decide +kernel
theorem dX9_power__26 : decode cX9_power_ 26 = .ok (.istore_n 3, 1) := by decide +kernel
theorem dX9_power__27 : decode cX9_power_ 27 = .ok (.iload_n 3, 1) := by decide +kernel
theorem dX9_power__28 : decode cX9_power_ 28 = .ok (.aload_n 0, 1) := by decide +kernel
theorem dX9_power__29 : decode cX9_power_ 29 = .ok (.getfield 116, 3) := by decide +kernel
theorem dX9_power__32 : decode cX9_power_ 32 = .ok (.if_icmp .ge 56, 3) := by decide +kernel
theorem dX9_power__35 : decode cX9_power_ 35 = .ok (.aload_n 0, 1) := by decide +kernel
theorem dX9_power__36 : decode cX9_power_ 36 = .ok (.getfield 73, 3) := by decide +kernel
theorem dX9_power__39 : decode cX9_power_ 39 = .ok (.bipush 32, 2) := by decide +kernel
theorem dX9_power__41 : decode cX9_power_ 41 = .ok (.iload_n 2, 1) := by decide +kernel
theorem dX9_power__42 : decode cX9_power_ 42 = .ok (.imul, 1) := by decide +kernel
theorem dX9_power__43 : decode cX9_power_ 43 = .ok (.iload_n 3, 1) := by decide +kernel
theorem dX9_power__44 : decode cX9_power_ 44 = .ok (.iadd, 1) := by decide +kernel
theorem dX9_power__45 : decode cX9_power_ 45 = .ok (.aload_n 0, 1) := by decide +kernel
theorem dX9_power__46 : decode cX9_power_ 46 = .ok (.getfield 39, 3) := by decide +kernel
theorem dX9_power__49 : decode cX9_power_ 49 = .ok (.bipush 32, 2) := by decide +kernel
theorem dX9_power__51 : decode cX9_power_ 51 = .ok (.iload_n 2, 1) := by decide +kernel
theorem dX9_power__52 : decode cX9_power_ 52 = .ok (.imul, 1) := by decide +kernel
theorem dX9_power__53 : decode cX9_power_ 53 = .ok (.iload_n 3, 1) := by decide +kernel
theorem dX9_power__54 : decode cX9_power_ 54 = .ok (.iadd, 1) := by decide +kernel
theorem dX9_power__55 : decode cX9_power_ 55 = .ok (.iaload, 1) := by decide +kernel
theorem dX9_power__56 : decode cX9_power_ 56 = .ok (.bipush 99, 2) := by decide +kernel
theorem dX9_power__58 : decode cX9_power_ 58 = .ok (.if_icmp .eq 22, 3) := by decide +kernel
theorem dX9_power__61 : decode cX9_power_ 61 = .ok (.aload_n 0, 1) := by decide +kernel
theorem dX9_power__62 : decode cX9_power_ 62 = .ok (.getfield 39, 3) := by decide +kernel
theorem dX9_power__65 : decode cX9_power_ 65 = .ok (.bipush 32, 2) := by decide +kernel
theorem dX9_power__67 : decode cX9_power_ 67 = .ok (.iload_n 2, 1) := by decide +kernel
theorem dX9_power__68 : decode cX9_power_ 68 = .ok (.imul, 1) := by decide +kernel
theorem dX9_power__69 : decode cX9_power_ 69 = .ok (.iload_n 3, 1) := by decide +kernel
theorem dX9_power__70 : decode cX9_power_ 70 = .ok (.iadd, 1) := by decide +kernel
theorem dX9_power__71 : decode cX9_power_ 71 = .ok (.iaload, 1) := by decide +kernel
theorem dX9_power__72 : decode cX9_power_ 72 = .ok (.iload_n 1, 1) := by decide +kernel
theorem dX9_power__73 : decode cX9_power_ 73 = .ok (.if_icmp .ne 7, 3) := by decide +kernel
theorem dX9_power__76 : decode cX9_power_ 76 = .ok (.iconst 1, 1) := by decide +kernel
theorem dX9_power__77 : decode cX9_power_ 77 = .ok (.goto 4, 3) := by decide +kernel
theorem dX9_power__80 : decode cX9_power_ 80 = .ok (.iconst 0, 1) := by decide +kernel
theorem dX9_power__81 : decode cX9_power_ 81 = .ok (.bastore, 1) := by decide +kernel
theorem dX9_power__82 : decode cX9_power_ 82 = .ok (.iinc 3 1, 3) := by decide +kernel
theorem dX9_power__85 : decode cX9_power_ 85 = .ok (.goto (-58), 3) := by decide +kernel
theorem dX9_power__88 : decode cX9_power_ 88 = .ok (.iinc 2 1, 3) := by decide +kernel
theorem dX9_power__91 : decode cX9_power_ 91 = .ok (.goto (-74), 3) := by decide +kernel
theorem dX9_power__94 : decode cX9_power_ 94 = .ok (.aload_n 0, 1) := by decide +kernel
theorem dX9_power__95 : decode cX9_power_ 95 = .ok (.aload_n 0, 1) := by decide +kernel
theorem dX9_power__96 : decode cX9_power_ 96 = .ok (.getfield 116, 3) := by decide +kernel
theorem dX9_power__99 : decode cX9_power_ 99 = .ok (.invokevirtual 288, 3) := by decide +kernel
theorem dX9_power__102 : decode cX9_power_ 102 = .ok (.aload_n 0, 1) := by decide +kernel
theorem dX9_power__103 : decode cX9_power_ 103 = .ok (.invokevirtual 213, 3) := by decide +kernel
theorem dX9_power__106 : decode cX9_power_ 106 = .ok (.ireturn, 1) := by decide +kernel
set_option maxRecDepth 20000 in
theorem ggX9_other_X9_clearNew : GoodIn wsX9_other wsX9_clearNew := goodIn_r _ [8, 2, 23, 24, 25, 26, 27, 28, 29, 30, 31, 32, 33, 34, 35, 36, 37, 38, 39, 40, 41, 42, 43, 44, 45, 46, 47, 48, 49, 50, 51, 52, 53, 54, 55, 56, 57, 58, 59, 60, 61, 62, 63, 64, 65, 66] (by decide +kernel) (by decide +kernel)
set_option maxRecDepth 20000 in
theorem gX9_other_X9_clearNew : GoodIn wsX9_other (wsV RX9 285 RX9 yX9_clearNew wsX9_clearNew) := goodIn_app (goodIn_of _ (by decide +kernel)) ggX9_other_X9_clearNew
set_option maxRecDepth 20000 in
theorem ggX9_other_X9_become : GoodIn wsX9_other wsX9_become := goodIn_r _ [12, 1, 3, 2, 13, 14, 23, 24, 25, 26, 27, 28, 29, 30, 31, 32, 33, 34, 35, 36, 37, 38, 39, 40, 41, 42, 43, 44, 45, 46, 47, 48, 49, 50, 51, 52, 53, 54, 55, 56, 57, 58, 59, 60, 61, 62, 63, 64, 65, 66] (by decide +kernel) (by decide +kernel)
set_option maxRecDepth 20000 in
theorem gX9_other_X9_become : GoodIn wsX9_other (wsV RX9 288 RX9 yX9_become wsX9_become) := goodIn_app (goodIn_of _ (by decide +kernel)) ggX9_other_X9_become
set_option maxRecDepth 20000 in
theorem ggX9_other_X9_roads : GoodIn wsX9_other wsX9_roads := goodIn_r _ [18, 1, 19, 20, 21, 7, 22, 3, 23, 24, 25, 26, 27, 28, 29, 30, 31, 32, 33, 34, 35, 36, 37, 38, 39, 40, 41, 42, 43, 44, 45, 46, 47, 48, 49, 50, 51, 52, 53, 54, 55, 56, 57, 58, 59, 60, 61, 62, 63, 64, 65, 66] (by decide +kernel) (by decide +kernel)
set_option maxRecDepth 20000 in
theorem gX9_other_X9_roads : GoodIn wsX9_other (wsV RX9 213 RX9 yX9_roads wsX9_roads) := goodIn_app (goodIn_of _ (by decide +kernel)) ggX9_other_X9_roads
theorem dX9_other_0 : decode cX9_other 0 = .ok (.aload_n 0, 1) := by decide +kernel
theorem dX9_other_1 : decode cX9_other 1 = .ok (.invokevirtual 285, 3) := by decide +kernel
theorem dX9_other_4 : decode cX9_other 4 = .ok (.iconst 0, 1) := by decide +kernel
theorem dX9_other_5 : decode cX9_other 5 = .ok (.istore_n 1, 1) := by decide +kernel
theorem dX9_other_6 : decode cX9_other 6 = .ok (.iload_n 1, 1) := by decide +kernel
theorem dX9_other_7 : decode cX9_other 7 = .ok (.aload_n 0, 1) := by decide +kernel
theorem dX9_other_8 : decode cX9_other 8 = .ok (.getfield 116, 3) := by decide +kernel
theorem dX9_other_11 : decode cX9_other 11 = .ok (.if_icmp .ge 60, 3) := by decide +kernel
theorem dX9_other_14 : decode cX9_other 14 = .ok (.iconst 0, 1) := by decide +kernel
theorem dX9_other_15 : decode cX9_other 15 = .ok (.istore_n 2, 1) := by decide +kernel
theorem dX9_other_16 : decode cX9_other 16 = .ok (.iload_n 2, 1) := by decide +kernel
theorem dX9_other_17 : decode cX9_other 17 = .ok (.aload_n 0, 1) := by decide +kernel
theorem dX9_other_18 : decode cX9_other 18 = .ok (.getfield 116, 3) := by decide +kernel
theorem dX9_other_21 : decode cX9_other 21 = .ok (.if_icmp .ge 44, 3) := by decide +kernel
theorem dX9_other_24 : decode cX9_other 24 = .ok (.aload_n 0, 1) := by decide +kernel
theorem dX9_other_25 : decode cX9_other 25 = .ok (.getfield 73, 3) := by decide +kernel
theorem dX9_other_28 : decode cX9_other 28 = .ok (.bipush 32, 2) := by decide +kernel
theorem dX9_other_30 : decode cX9_other 30 = .ok (.iload_n 1, 1) := by decide +kernel
theorem dX9_other_31 : decode cX9_other 31 = .ok (.imul, 1) := by decide +kernel
theorem dX9_other_32 : decode cX9_other 32 = .ok (.iload_n 2, 1) := by decide +kernel
theorem dX9_other_33 : decode cX9_other 33 = .ok (.iadd, 1) := by decide +kernel
theorem dX9_other_34 : decode cX9_other 34 = .ok (.iload_n 1, 1) := by decide +kernel
theorem dX9_other_35 : decode cX9_other 35 = .ok (.iload_n 2, 1) := by decide +kernel
theorem dX9_other_36 : decode cX9_other 36 = .ok (.if_icmp .eq 21, 3) := by decide +kernel
theorem dX9_other_39 : decode cX9_other 39 = .ok (.aload_n 0, 1) := by decide +kernel
theorem dX9_other_40 : decode cX9_other 40 = .ok (.getfield 19, 3) := by decide +kernel
theorem dX9_other_43 : decode cX9_other 43 = .ok (.bipush 32, 2) := by decide +kernel
theorem dX9_other_45 : decode cX9_other 45 = .ok (.iload_n 1, 1) := by decide +kernel
theorem dX9_other_46 : decode cX9_other 46 = .ok (.imul, 1) := by decide +kernel
theorem dX9_other_47 : decode cX9_other 47 = .ok (.iload_n 2, 1) := by decide +kernel
theorem dX9_other_48 : decode cX9_other 48 = .ok (.iadd, 1) := by decide +kernel
theorem dX9_other_49 : decode cX9_other 49 = .ok (.baload, 1) := by decide +kernel
theorem dX9_other_50 : decode cX9_other 50 = .ok (.ifCond .ne 7, 3) := by decide +kernel
theorem dX9_other_53 : decode cX9_other 53 = .ok (.iconst 1, 1) := by decide +kernel
theorem dX9_other_54 : decode cX9_other 54 = .ok (.goto 4, 3) := by decide +kernel
theorem dX9_other_57 : decode cX9_other 57 = .ok (.iconst 0, 1) := by decide +kernel
theorem dX9_other_58 : decode cX9_other 58 = .ok (.bastore, 1) := by decide +kernel
theorem dX9_other_59 : decode cX9_other 59 = .ok (.iinc 2 1, 3) := by decide +kernel
theorem dX9_other_62 : decode cX9_other 62 = .ok (.goto (-46), 3) := by decide +kernel
theorem dX9_other_65 : decode cX9_other 65 = .ok (.iinc 1 1, 3) := by decide +kernel
theorem dX9_other_68 : decode cX9_other 68 = .ok (.goto (-62), 3) := by decide +kernel
theorem dX9_other_71 : decode cX9_other 71 = .ok (.aload_n 0, 1) := by decide +kernel
theorem dX9_other_72 : decode cX9_other 72 = .ok (.aload_n 0, 1) := by decide +kernel
theorem dX9_other_73 : decode cX9_other 73 = .ok (.getfield 116, 3) := by decide +kernel
theorem dX9_other_76 : decode cX9_other 76 = .ok (.invokevirtual 288, 3) := by decide +kernel
theorem dX9_other_79 : decode cX9_other 79 = .ok (.aload_n 0, 1) := by decide +kernel
theorem dX9_other_80 : decode cX9_other 80 = .ok (.invokevirtual 213, 3) := by decide +kernel
theorem dX9_other_83 : decode cX9_other 83 = .ok (.ireturn, 1) := by decide +kernel
set_option maxRecDepth 20000 in
theorem ggX9_lines_X9_roads : GoodIn wsX9_lines wsX9_roads := goodIn_r _ [10, 1, 11, 12, 13, 9, 14, 2, 25, 26, 27, 28, 29, 30, 31, 32, 33, 34, 35, 36, 37, 38, 39, 40, 41, 42, 43, 44, 45, 46, 47, 48, 49, 50, 51, 52, 53, 54, 55, 56, 57, 58, 59, 60, 61, 62, 63, 64, 65, 66, 67, 68] (by decide +kernel) (by decide +kernel)
set_option maxRecDepth 20000 in
theorem gX9_lines_X9_roads : GoodIn wsX9_lines (wsV RX9 213 RX9 yX9_roads wsX9_roads) := goodIn_app (goodIn_of _ (by decide +kernel)) ggX9_lines_X9_roads
set_option maxRecDepth 20000 in
theorem ggX9_lines_X9_clearNew : GoodIn wsX9_lines wsX9_clearNew := goodIn_r _ [18, 5, 25, 26, 27, 28, 29, 30, 31, 32, 33, 34, 35, 36, 37, 38, 39, 40, 41, 42, 43, 44, 45, 46, 47, 48, 49, 50, 51, 52, 53, 54, 55, 56, 57, 58, 59, 60, 61, 62, 63, 64, 65, 66, 67, 68] (by decide +kernel) (by decide +kernel)
set_option maxRecDepth 20000 in
theorem gX9_lines_X9_clearNew : GoodIn wsX9_lines (wsV RX9 285 RX9 yX9_clearNew wsX9_clearNew) := goodIn_app (goodIn_of _ (by decide +kernel)) ggX9_lines_X9_clearNew
set_option maxRecDepth 20000 in
theorem ggX9_lines_X9_become : GoodIn wsX9_lines wsX9_become := goodIn_r _ [22, 1, 2, 5, 23, 24, 25, 26, 27, 28, 29, 30, 31, 32, 33, 34, 35, 36, 37, 38, 39, 40, 41, 42, 43, 44, 45, 46, 47, 48, 49, 50, 51, 52, 53, 54, 55, 56, 57, 58, 59, 60, 61, 62, 63, 64, 65, 66, 67, 68] (by decide +kernel) (by decide +kernel)
set_option maxRecDepth 20000 in
theorem gX9_lines_X9_become : GoodIn wsX9_lines (wsV RX9 288 RX9 yX9_become wsX9_become) := goodIn_app (goodIn_of _ (by decide +kernel)) ggX9_lines_X9_become
theorem dX9_lines_0 : decode cX9_lines 0 = .ok (.aload_n 0, 1) := by decide +kernel
theorem dX9_lines_1 : decode cX9_lines 1 = .ok (.invokevirtual 213, 3) := by decide +kernel
theorem dX9_lines_4 : decode cX9_lines 4 = .ok (.bipush 32, 2) := by decide +kernel
theorem dX9_lines_6 : decode cX9_lines 6 = .ok (.if_icmp .le 6, 3) := by decide +kernel
theorem dX9_lines_9 : decode cX9_lines 9 = .ok (.bipush (-2), 2) := by decide +kernel
theorem dX9_lines_11 : decode cX9_lines 11 = .ok (.ireturn, 1) := by decide +kernel
theorem dX9_lines_12 : decode cX9_lines 12 = .ok (.iconst 0, 1) := by decide +kernel
theorem dX9_lines_13 : decode cX9_lines 13 = .ok (.istore_n 1, 1) := by decide +kernel
theorem dX9_lines_14 : decode cX9_lines 14 = .ok (.iconst 0, 1) := by decide +kernel
theorem dX9_lines_15 : decode cX9_lines 15 = .ok (.istore_n 2, 1) := by decide +kernel
theorem dX9_lines_16 : decode cX9_lines 16 = .ok (.iload_n 2, 1) := by decide +kernel
theorem dX9_lines_17 : decode cX9_lines 17 = .ok (.aload_n 0, 1) := by decide +kernel
theorem dX9_lines_18 : decode cX9_lines 18 = .ok (.getfield 116, 3) := by decide +kernel
theorem dX9_lines_21 : decode cX9_lines 21 = .ok (.if_icmp .ge 58, 3) := by decide +kernel
theorem dX9_lines_24 : decode cX9_lines 24 = .ok (.iload_n 2, 1) := by decide +kernel
theorem dX9_lines_25 : decode cX9_lines 25 = .ok (.iconst 1, 1) := by decide +kernel
theorem dX9_lines_26 : decode cX9_lines 26 = .ok (.iadd, 1) := by decide +kernel
theorem dX9_lines_27 : decode cX9_lines 27 = .ok (.istore_n 3, 1) := by decide +kernel
theorem dX9_lines_28 : decode cX9_lines 28 = .ok (.iload_n 3, 1) := by decide +kernel
theorem dX9_lines_29 : decode cX9_lines 29 = .ok (.aload_n 0, 1) := by decide +kernel
theorem dX9_lines_30 : decode cX9_lines 30 = .ok (.getfield 116, 3) := by decide +kernel
theorem dX9_lines_33 : decode cX9_lines 33 = .ok (.if_icmp .ge 40, 3) := by decide +kernel
theorem dX9_lines_36 : decode cX9_lines 36 = .ok (.aload_n 0, 1) := by decide +kernel
theorem dX9_lines_37 : decode cX9_lines 37 = .ok (.getfield 19, 3) := by decide +kernel
theorem dX9_lines_40 : decode cX9_lines 40 = .ok (.bipush 32, 2) := by decide +kernel
theorem dX9_lines_42 : decode cX9_lines 42 = .ok (.iload_n 2, 1) := by decide +kernel
theorem dX9_lines_43 : decode cX9_lines 43 = .ok (.imul, 1) := by decide +kernel
theorem dX9_lines_44 : decode cX9_lines 44 = .ok (.iload_n 3, 1) := by decide +kernel
theorem dX9_lines_45 : decode cX9_lines 45 = .ok (.iadd, 1) := by decide +kernel
theorem dX9_lines_46 : decode cX9_lines 46 = .ok (.baload, 1) := by decide +kernel
theorem dX9_lines_47 : decode cX9_lines 47 = .ok (.ifCond .eq 20, 3) := by decide +kernel
theorem dX9_lines_50 : decode cX9_lines 50 = .ok (.aload_n 0, 1) := by decide +kernel
theorem dX9_lines_51 : decode cX9_lines 51 = .ok (.getfield 79, 3) := by decide +kernel
theorem dX9_lines_54 : decode cX9_lines 54 = .ok (.iload_n 1, 1) := by decide +kernel
theorem dX9_lines_55 : decode cX9_lines 55 = .ok (.iload_n 2, 1) := by decide +kernel
theorem dX9_lines_56 : decode cX9_lines 56 = .ok (.iastore, 1) := by decide +kernel
theorem dX9_lines_57 : decode cX9_lines 57 = .ok (.aload_n 0, 1) := by decide +kernel
theorem dX9_lines_58 : decode cX9_lines 58 = .ok (.getfield 82, 3) := by decide +kernel
theorem dX9_lines_61 : decode cX9_lines 61 = .ok (.iload_n 1, 1) := by decide +kernel
theorem dX9_lines_62 : decode cX9_lines 62 = .ok (.iload_n 3, 1) := by decide +kernel
theorem dX9_lines_63 : decode cX9_lines 63 = .ok (.iastore, 1) := by decide +kernel
theorem dX9_lines_64 : decode cX9_lines 64 = .ok (.iinc 1 1, 3) := by decide +kernel
theorem dX9_lines_67 : decode cX9_lines 67 = .ok (.iinc 3 1, 3) := by decide +kernel
theorem dX9_lines_70 : decode cX9_lines 70 = .ok (.goto (-42), 3) := by decide +kernel
theorem dX9_lines_73 : decode cX9_lines 73 = .ok (.iinc 2 1, 3) := by decide +kernel
theorem dX9_lines_76 : decode cX9_lines 76 = .ok (.goto (-60), 3) := by decide +kernel
theorem dX9_lines_79 : decode cX9_lines 79 = .ok (.aload_n 0, 1) := by decide +kernel
theorem dX9_lines_80 : decode cX9_lines 80 = .ok (.invokevirtual 285, 3) := by decide +kernel
theorem dX9_lines_83 : decode cX9_lines 83 = .ok (.iconst 0, 1) := by decide +kernel
theorem dX9_lines_84 : decode cX9_lines 84 = .ok (.istore_n 2, 1) := by decide +kernel
theorem dX9_lines_85 : decode cX9_lines 85 = .ok (.iload_n 2, 1) := by decide +kernel
theorem dX9_lines_86 : decode cX9_lines 86 = .ok (.iload_n 1, 1) := by decide +kernel
theorem dX9_lines_87 : decode cX9_lines 87 = .ok (.if_icmp .ge 115, 3) := by decide +kernel
theorem dX9_lines_90 : decode cX9_lines 90 = .ok (.iconst 0, 1) := by decide +kernel
theorem dX9_lines_91 : decode cX9_lines 91 = .ok (.istore_n 3, 1) := by decide +kernel
theorem dX9_lines_92 : decode cX9_lines 92 = .ok (.iload_n 3, 1) := by decide +kernel
theorem dX9_lines_93 : decode cX9_lines 93 = .ok (.iload_n 1, 1) := by decide +kernel
theorem dX9_lines_94 : decode cX9_lines 94 = .ok (.if_icmp .ge 102, 3) := by decide +kernel
theorem dX9_lines_97 : decode cX9_lines 97 = .ok (.aload_n 0, 1) := by decide +kernel
theorem dX9_lines_98 : decode cX9_lines 98 = .ok (.getfield 79, 3) := by decide +kernel
theorem dX9_lines_101 : decode cX9_lines 101 = .ok (.iload_n 2, 1) := by decide +kernel
theorem dX9_lines_102 : decode cX9_lines 102 = .ok (.iaload, 1) := by decide +kernel
theorem dX9_lines_103 : decode cX9_lines 103 = .ok (.aload_n 0, 1) := by decide +kernel
theorem dX9_lines_104 : decode cX9_lines 104 = .ok (.getfield 79, 3) := by decide +kernel
theorem dX9_lines_107 : decode cX9_lines 107 = .ok (.iload_n 3, 1) := by decide +kernel
theorem dX9_lines_108 : decode cX9_lines 108 = .ok (.iaload, 1) := by decide +kernel
theorem dX9_lines_109 : decode cX9_lines 109 = .ok (.if_icmp .eq 48, 3) := by decide +kernel
theorem dX9_lines_112 : decode cX9_lines 112 = .ok (.aload_n 0, 1) := by decide +kernel
theorem dX9_lines_113 : decode cX9_lines 113 = .ok (.getfield 79, 3) := by decide +kernel
theorem dX9_lines_116 : decode cX9_lines 116 = .ok (.iload_n 2, 1) := by decide +kernel
theorem dX9_lines_117 : decode cX9_lines 117 = .ok (.iaload, 1) := by decide +kernel
theorem dX9_lines_118 : decode cX9_lines 118 = .ok (.aload_n 0, 1) := by decide +kernel
theorem dX9_lines_119 : decode cX9_lines 119 = .ok (.getfield 82, 3) := by decide +kernel
theorem dX9_lines_122 : decode cX9_lines 122 = .ok (.iload_n 3, 1) := by decide +kernel
theorem dX9_lines_123 : decode cX9_lines 123 = .ok (.iaload, 1) := by decide +kernel
theorem dX9_lines_124 : decode cX9_lines 124 = .ok (.if_icmp .eq 33, 3) := by decide +kernel
theorem dX9_lines_127 : decode cX9_lines 127 = .ok (.aload_n 0, 1) := by decide +kernel
theorem dX9_lines_128 : decode cX9_lines 128 = .ok (.getfield 82, 3) := by decide +kernel
theorem dX9_lines_131 : decode cX9_lines 131 = .ok (.iload_n 2, 1) := by decide +kernel
theorem dX9_lines_132 : decode cX9_lines 132 = .ok (.iaload, 1) := by decide +kernel
theorem dX9_lines_133 : decode cX9_lines 133 = .ok (.aload_n 0, 1) := by decide +kernel
theorem dX9_lines_134 : decode cX9_lines 134 = .ok (.getfield 79, 3) := by decide +kernel
theorem dX9_lines_137 : decode cX9_lines 137 = .ok (.iload_n 3, 1) := by decide +kernel
theorem dX9_lines_138 : decode cX9_lines 138 = .ok (.iaload, 1) := by decide +kernel
theorem dX9_lines_139 : decode cX9_lines 139 = .ok (.if_icmp .eq 18, 3) := by decide +kernel
theorem dX9_lines_142 : decode cX9_lines 142 = .ok (.aload_n 0, 1) := by decide +kernel
theorem dX9_lines_143 : decode cX9_lines 143 = .ok (.getfield 82, 3) := by decide +kernel
theorem dX9_lines_146 : decode cX9_lines 146 = .ok (.iload_n 2, 1) := by decide +kernel
theorem dX9_lines_147 : decode cX9_lines 147 = .ok (.iaload, 1) := by decide +kernel
theorem dX9_lines_148 : decode cX9_lines 148 = .ok (.aload_n 0, 1) := by decide +kernel
theorem dX9_lines_149 : decode cX9_lines 149 = .ok (.getfield 82, 3) := by decide +kernel
theorem dX9_lines_152 : decode cX9_lines 152 = .ok (.iload_n 3, 1) := by decide +kernel
theorem dX9_lines_153 : decode cX9_lines 153 = .ok (.iaload, 1) := by decide +kernel
theorem dX9_lines_154 : decode cX9_lines 154 = .ok (.if_icmp .ne 7, 3) := by decide +kernel
theorem dX9_lines_157 : decode cX9_lines 157 = .ok (.iconst 1, 1) := by decide +kernel
theorem dX9_lines_158 : decode cX9_lines 158 = .ok (.goto 4, 3) := by decide +kernel
theorem dX9_lines_161 : decode cX9_lines 161 = .ok (.iconst 0, 1) := by decide +kernel
theorem dX9_lines_162 : decode cX9_lines 162 = .ok (.istore 4, 2) := by decide +kernel
theorem dX9_lines_164 : decode cX9_lines 164 = .ok (.aload_n 0, 1) := by decide +kernel
theorem dX9_lines_165 : decode cX9_lines 165 = .ok (.getfield 73, 3) := by decide +kernel
theorem dX9_lines_168 : decode cX9_lines 168 = .ok (.bipush 32, 2) := by decide +kernel
theorem dX9_lines_170 : decode cX9_lines 170 = .ok (.iload_n 2, 1) := by decide +kernel
theorem dX9_lines_171 : decode cX9_lines 171 = .ok (.imul, 1) := by decide +kernel
theorem dX9_lines_172 : decode cX9_lines 172 = .ok (.iload_n 3, 1) := by decide +kernel
theorem dX9_lines_173 : decode cX9_lines 173 = .ok (.iadd, 1) := by decide +kernel
theorem dX9_lines_174 : decode cX9_lines 174 = .ok (.iload_n 2, 1) := by decide +kernel
theorem dX9_lines_175 : decode cX9_lines 175 = .ok (.iload_n 3, 1) := by decide +kernel
theorem dX9_lines_176 : decode cX9_lines 176 = .ok (.if_icmp .eq 12, 3) := by decide +kernel
theorem dX9_lines_179 : decode cX9_lines 179 = .ok (.iload 4, 2) := by decide +kernel
theorem dX9_lines_181 : decode cX9_lines 181 = .ok (.ifCond .eq 7, 3) := by decide +kernel
theorem dX9_lines_184 : decode cX9_lines 184 = .ok (.iconst 1, 1) := by decide +kernel
theorem dX9_lines_185 : decode cX9_lines 185 = .ok (.goto 4, 3) := by decide +kernel
theorem dX9_lines_188 : decode cX9_lines 188 = .ok (.iconst 0, 1) := by decide +kernel
theorem dX9_lines_189 : decode cX9_lines 189 = .ok (.bastore, 1) := by decide +kernel
theorem dX9_lines_190 : decode cX9_lines 190 = .ok (.iinc 3 1, 3) := by decide +kernel
theorem dX9_lines_193 : decode cX9_lines 193 = .ok (.goto (-101), 3) := by decide +kernel
theorem dX9_lines_196 : decode cX9_lines 196 = .ok (.iinc 2 1, 3) := by decide +kernel
theorem dX9_lines_199 : decode cX9_lines 199 = .ok (.goto (-114), 3) := by decide +kernel
theorem dX9_lines_202 : decode cX9_lines 202 = .ok (.aload_n 0, 1) := by decide +kernel
theorem dX9_lines_203 : decode cX9_lines 203 = .ok (.iload_n 1, 1) := by decide +kernel
theorem dX9_lines_204 : decode cX9_lines 204 = .ok (.invokevirtual 288, 3) := by decide +kernel
theorem dX9_lines_207 : decode cX9_lines 207 = .ok (.iload_n 1, 1) := by decide +kernel
theorem dX9_lines_208 : decode cX9_lines 208 = .ok (.ireturn, 1) := by decide +kernel
theorem dX9_keep_0 : decode cX9_keep 0 = .ok (.aload_n 0, 1) := by decide +kernel
theorem dX9_keep_1 : decode cX9_keep 1 = .ok (.iconst 1, 1) := by decide +kernel
theorem dX9_keep_2 : decode cX9_keep 2 = .ok (.putfield 291, 3) := by decide +kernel
theorem dX9_keep_5 : decode cX9_keep 5 = .ok (.aload_n 0, 1) := by decide +kernel
theorem dX9_keep_6 : decode cX9_keep 6 = .ok (.aload_n 0, 1) := by decide +kernel
theorem dX9_keep_7 : decode cX9_keep 7 = .ok (.getfield 116, 3) := by decide +kernel
theorem dX9_keep_10 : decode cX9_keep 10 = .ok (.putfield 294, 3) := by decide +kernel
theorem dX9_keep_13 : decode cX9_keep 13 = .ok (.iconst 0, 1) := by decide +kernel
theorem dX9_keep_14 : decode cX9_keep 14 = .ok (.istore_n 1, 1) := by decide +kernel
theorem dX9_keep_15 : decode cX9_keep 15 = .ok (.iload_n 1, 1) := by decide +kernel
theorem dX9_keep_16 : decode cX9_keep 16 = .ok (.sipush 1024, 3) := by decide +kernel
theorem dX9_keep_19 : decode cX9_keep 19 = .ok (.if_icmp .ge 21, 3) := by decide +kernel
theorem dX9_keep_22 : decode cX9_keep 22 = .ok (.aload_n 0, 1) := by decide +kernel
theorem dX9_keep_23 : decode cX9_keep 23 = .ok (.getfield 23, 3) := by decide +kernel
theorem dX9_keep_26 : decode cX9_keep 26 = .ok (.iload_n 1, 1) := by decide +kernel
theorem dX9_keep_27 : decode cX9_keep 27 = .ok (.aload_n 0, 1) := by decide +kernel
theorem dX9_keep_28 : decode cX9_keep 28 = .ok (.getfield 19, 3) := by decide +kernel
theorem dX9_keep_31 : decode cX9_keep 31 = .ok (.iload_n 1, 1) := by decide +kernel
theorem dX9_keep_32 : decode cX9_keep 32 = .ok (.baload, 1) := by decide +kernel
theorem dX9_keep_33 : decode cX9_keep 33 = .ok (.bastore, 1) := by decide +kernel
theorem dX9_keep_34 : decode cX9_keep 34 = .ok (.iinc 1 1, 3) := by decide +kernel
theorem dX9_keep_37 : decode cX9_keep 37 = .ok (.goto (-22), 3) := by decide +kernel
theorem dX9_keep_40 : decode cX9_keep 40 = .ok (.iconst 1, 1) := by decide +kernel
theorem dX9_keep_41 : decode cX9_keep 41 = .ok (.ireturn, 1) := by decide +kernel
set_option maxRecDepth 20000 in
theorem ggX9_back_X9_become : GoodIn wsX9_back wsX9_become := goodIn_r _ [9, 10, 11, 2, 12, 13, 14, 15, 16, 17, 18, 19, 20, 21, 22, 23, 24, 25, 26, 27, 28, 29, 30, 31, 32, 33, 34, 35, 36, 37, 38, 39, 40, 41, 42, 43, 44, 45, 46, 47, 48, 49, 50, 51, 52, 53, 54, 55, 56, 57] (by decide +kernel) (by decide +kernel)
set_option maxRecDepth 20000 in
theorem gX9_back_X9_become : GoodIn wsX9_back (wsV RX9 288 RX9 yX9_become wsX9_become) := goodIn_app (goodIn_of _ (by decide +kernel)) ggX9_back_X9_become
theorem dX9_back_0 : decode cX9_back 0 = .ok (.aload_n 0, 1) := by decide +kernel
theorem dX9_back_1 : decode cX9_back 1 = .ok (.getfield 291, 3) := by decide +kernel
theorem dX9_back_4 : decode cX9_back 4 = .ok (.ifCond .ne 6, 3) := by decide +kernel
theorem dX9_back_7 : decode cX9_back 7 = .ok (.bipush (-5), 2) := by decide +kernel
theorem dX9_back_9 : decode cX9_back 9 = .ok (.ireturn, 1) := by decide +kernel
theorem dX9_back_10 : decode cX9_back 10 = .ok (.iconst 0, 1) := by decide +kernel
theorem dX9_back_11 : decode cX9_back 11 = .ok (.istore_n 1, 1) := by decide +kernel
theorem dX9_back_12 : decode cX9_back 12 = .ok (.iload_n 1, 1) := by decide +kernel
theorem dX9_back_13 : decode cX9_back 13 = .ok (.sipush 1024, 3) := by decide +kernel
theorem dX9_back_16 : decode cX9_back 16 = .ok (.if_icmp .ge 21, 3) := by decide +kernel
theorem dX9_back_19 : decode cX9_back 19 = .ok (.aload_n 0, 1) := by decide +kernel
theorem dX9_back_20 : decode cX9_back 20 = .ok (.getfield 73, 3) := by decide +kernel
theorem dX9_back_23 : decode cX9_back 23 = .ok (.iload_n 1, 1) := by decide +kernel
theorem dX9_back_24 : decode cX9_back 24 = .ok (.aload_n 0, 1) := by decide +kernel
theorem dX9_back_25 : decode cX9_back 25 = .ok (.getfield 23, 3) := by decide +kernel
theorem dX9_back_28 : decode cX9_back 28 = .ok (.iload_n 1, 1) := by decide +kernel
theorem dX9_back_29 : decode cX9_back 29 = .ok (.baload, 1) := by decide +kernel
theorem dX9_back_30 : decode cX9_back 30 = .ok (.bastore, 1) := by decide +kernel
theorem dX9_back_31 : decode cX9_back 31 = .ok (.iinc 1 1, 3) := by decide +kernel
theorem dX9_back_34 : decode cX9_back 34 = .ok (.goto (-22), 3) := by decide +kernel
theorem dX9_back_37 : decode cX9_back 37 = .ok (.aload_n 0, 1) := by decide +kernel
theorem dX9_back_38 : decode cX9_back 38 = .ok (.aload_n 0, 1) := by decide +kernel
theorem dX9_back_39 : decode cX9_back 39 = .ok (.getfield 294, 3) := by decide +kernel
theorem dX9_back_42 : decode cX9_back 42 = .ok (.invokevirtual 288, 3) := by decide +kernel
theorem dX9_back_45 : decode cX9_back 45 = .ok (.iconst 1, 1) := by decide +kernel
theorem dX9_back_46 : decode cX9_back 46 = .ok (.ireturn, 1) := by decide +kernel
theorem dX9_findNear_0 : decode cX9_findNear 0 = .ok (.iconst 0, 1) := by decide +kernel
theorem dX9_findNear_1 : decode cX9_findNear 1 = .ok (.istore_n 2, 1) := by decide +kernel
theorem dX9_findNear_2 : decode cX9_findNear 2 = .ok (.iload_n 2, 1) := by decide +kernel
theorem dX9_findNear_3 : decode cX9_findNear 3 = .ok (.aload_n 0, 1) := by decide +kernel
theorem dX9_findNear_4 : decode cX9_findNear 4 = .ok (.getfield 116, 3) := by decide +kernel
theorem dX9_findNear_7 : decode cX9_findNear 7 = .ok (.if_icmp .ge 63, 3) := by decide +kernel
theorem dX9_findNear_10 : decode cX9_findNear 10 = .ok (.aload_n 0, 1) := by decide +kernel
theorem dX9_findNear_11 : decode cX9_findNear 11 = .ok (.getfield 91, 3) := by decide +kernel
theorem dX9_findNear_14 : decode cX9_findNear 14 = .ok (.iload_n 2, 1) := by decide +kernel
theorem dX9_findNear_15 : decode cX9_findNear 15 = .ok (.iconst 0, 1) := by decide +kernel
theorem dX9_findNear_16 : decode cX9_findNear 16 = .ok (.iastore, 1) := by decide +kernel
theorem dX9_findNear_17 : decode cX9_findNear 17 = .ok (.iconst 0, 1) := by decide +kernel
theorem dX9_findNear_18 : decode cX9_findNear 18 = .ok (.istore_n 3, 1) := by decide +kernel
theorem dX9_findNear_19 : decode cX9_findNear 19 = .ok (.iload_n 3, 1) := by decide +kernel
theorem dX9_findNear_20 : decode cX9_findNear 20 = .ok (.aload_n 0, 1) := by decide +kernel
theorem dX9_findNear_21 : decode cX9_findNear 21 = .ok (.getfield 116, 3) := by decide +kernel
theorem dX9_findNear_24 : decode cX9_findNear 24 = .ok (.if_icmp .ge 40, 3) := by decide +kernel
theorem dX9_findNear_27 : decode cX9_findNear 27 = .ok (.aload_n 0, 1) := by decide +kernel
theorem dX9_findNear_28 : decode cX9_findNear 28 = .ok (.getfield 91, 3) := by decide +kernel
theorem dX9_findNear_31 : decode cX9_findNear 31 = .ok (.iload_n 2, 1) := by decide +kernel
theorem dX9_findNear_32 : decode cX9_findNear 32 = .ok (.dup2, 1) := by decide +kernel
theorem dX9_findNear_33 : decode cX9_findNear 33 = .ok (.iaload, 1) := by decide +kernel
theorem dX9_findNear_34 : decode cX9_findNear 34 = .ok (.aload_n 0, 1) := by decide +kernel
theorem dX9_findNear_35 : decode cX9_findNear 35 = .ok (.getfield 39, 3) := by decide +kernel
theorem dX9_findNear_38 : decode cX9_findNear 38 = .ok (.bipush 32, 2) := by decide +kernel
theorem dX9_findNear_40 : decode cX9_findNear 40 = .ok (.iload_n 2, 1) := by decide +kernel
theorem dX9_findNear_41 : decode cX9_findNear 41 = .ok (.imul, 1) := by decide +kernel
theorem dX9_findNear_42 : decode cX9_findNear 42 = .ok (.iload_n 3, 1) := by decide +kernel
theorem dX9_findNear_43 : decode cX9_findNear 43 = .ok (.iadd, 1) := by decide +kernel
theorem dX9_findNear_44 : decode cX9_findNear 44 = .ok (.iaload, 1) := by decide +kernel
theorem dX9_findNear_45 : decode cX9_findNear 45 = .ok (.iload_n 1, 1) := by decide +kernel
theorem dX9_findNear_46 : decode cX9_findNear 46 = .ok (.if_icmp .gt 9, 3) := by decide +kernel
theorem dX9_findNear_49 : decode cX9_findNear 49 = .ok (.iconst 1, 1) := by decide +kernel
theorem dX9_findNear_50 : decode cX9_findNear 50 = .ok (.iload_n 3, 1) := by decide +kernel
theorem dX9_findNear_51 : decode cX9_findNear 51 = .ok (.ishl, 1) := by decide +kernel
theorem dX9_findNear_52 : decode cX9_findNear 52 = .ok (.goto 4, 3) := by decide +kernel
theorem dX9_findNear_55 : decode cX9_findNear 55 = .ok (.iconst 0, 1) := by decide +kernel
theorem dX9_findNear_56 : decode cX9_findNear 56 = .ok (.ior, 1) := by decide +kernel
theorem dX9_findNear_57 : decode cX9_findNear 57 = .ok (.iastore, 1) := by decide +kernel
theorem dX9_findNear_58 : decode cX9_findNear 58 = .ok (.iinc 3 1, 3) := by decide +kernel
theorem dX9_findNear_61 : decode cX9_findNear 61 = .ok (.goto (-42), 3) := by decide +kernel
theorem dX9_findNear_64 : decode cX9_findNear 64 = .ok (.iinc 2 1, 3) := by decide +kernel
theorem dX9_findNear_67 : decode cX9_findNear 67 = .ok (.goto (-65), 3) := by decide +kernel
theorem dX9_findNear_70 : decode cX9_findNear 70 = .ok (.return_, 1) := by decide +kernel
theorem dX9_uncovered_0 : decode cX9_uncovered 0 = .ok (.iconst 0, 1) := by decide +kernel
theorem dX9_uncovered_1 : decode cX9_uncovered 1 = .ok (.istore_n 1, 1) := by decide +kernel
theorem dX9_uncovered_2 : decode cX9_uncovered 2 = .ok (.iload_n 1, 1) := by decide +kernel
theorem dX9_uncovered_3 : decode cX9_uncovered 3 = .ok (.aload_n 0, 1) := by decide +kernel
theorem dX9_uncovered_4 : decode cX9_uncovered 4 = .ok (.getfield 116, 3) := by decide +kernel
theorem dX9_uncovered_7 : decode cX9_uncovered 7 = .ok (.if_icmp .ge 26, 3) := by decide +kernel
theorem dX9_uncovered_10 : decode cX9_uncovered 10 = .ok (.aload_n 0, 1) := by decide +kernel
theorem dX9_uncovered_11 : decode cX9_uncovered 11 = .ok (.getfield 94, 3) := by decide +kernel
theorem dX9_uncovered_14 : decode cX9_uncovered 14 = .ok (.aload_n 0, 1) := by decide +kernel
theorem dX9_uncovered_15 : decode cX9_uncovered 15 = .ok (.getfield 297, 3) := by decide +kernel
theorem dX9_uncovered_18 : decode cX9_uncovered 18 = .ok (.iaload, 1) := by decide +kernel
theorem dX9_uncovered_19 : decode cX9_uncovered 19 = .ok (.iload_n 1, 1) := by decide +kernel
theorem dX9_uncovered_20 : decode cX9_uncovered 20 = .ok (.ishr, 1) := by decide +kernel
theorem dX9_uncovered_21 : decode cX9_uncovered 21 = .ok (.iconst 1, 1) := by decide +kernel
theorem dX9_uncovered_22 : decode cX9_uncovered 22 = .ok (.iand, 1) := by decide +kernel
theorem dX9_uncovered_23 : decode cX9_uncovered 23 = .ok (.iconst 1, 1) := by decide +kernel
theorem dX9_uncovered_24 : decode cX9_uncovered 24 = .ok (.if_icmp .ne 9, 3) := by decide +kernel
theorem dX9_uncovered_27 : decode cX9_uncovered 27 = .ok (.iinc 1 1, 3) := by decide +kernel
theorem dX9_uncovered_30 : decode cX9_uncovered 30 = .ok (.goto (-28), 3) := by decide +kernel
theorem dX9_uncovered_33 : decode cX9_uncovered 33 = .ok (.iload_n 1, 1) := by decide +kernel
theorem dX9_uncovered_34 : decode cX9_uncovered 34 = .ok (.ireturn, 1) := by decide +kernel
set_option maxRecDepth 20000 in
theorem ggX9_find_X9_in : GoodIn wsX9_find wsX9_in := goodIn_r _ [11] (by decide +kernel) (by decide +kernel)
set_option maxRecDepth 20000 in
theorem gX9_find_X9_in : GoodIn wsX9_find (va_wsS RX9 112 yX9_in wsX9_in) := goodIn_app (goodIn_of _ (by decide +kernel)) ggX9_find_X9_in
set_option maxRecDepth 20000 in
theorem ggX9_find_X9_measure : GoodIn wsX9_find wsX9_measure := goodIn_r _ [15, 16, 17, 18, 2, 19, 20, 21, 22, 10, 23, 24, 33, 34, 35, 36, 37, 38, 39, 40, 41, 42, 43, 44, 45, 46, 47, 48, 49, 50, 51, 52, 53, 54, 55, 56, 57, 58, 59, 60, 61, 62, 63, 64, 65, 66, 67, 68, 69, 70, 71, 72, 73, 74, 75, 76] (by decide +kernel) (by decide +kernel)
set_option maxRecDepth 20000 in
theorem gX9_find_X9_measure : GoodIn wsX9_find (wsV RX9 186 RX9 yX9_measure wsX9_measure) := goodIn_app (goodIn_of _ (by decide +kernel)) ggX9_find_X9_measure
set_option maxRecDepth 20000 in
theorem ggX9_find_X9_findNear : GoodIn wsX9_find wsX9_findNear := goodIn_r _ [28, 2, 6, 19, 33, 34, 35, 36, 37, 38, 39, 40, 41, 42, 43, 44, 45, 46, 47, 48, 49, 50, 51, 52, 53, 54, 55, 56, 57, 58, 59, 60, 61, 62, 63, 64, 65, 66, 67, 68, 69, 70, 71, 72, 73, 74, 75, 76] (by decide +kernel) (by decide +kernel)
set_option maxRecDepth 20000 in
theorem gX9_find_X9_findNear : GoodIn wsX9_find (wsV RX9 300 RX9 yX9_findNear wsX9_findNear) := goodIn_app (goodIn_of _ (by decide +kernel)) ggX9_find_X9_findNear
set_option maxRecDepth 20000 in
theorem ggX9_find_X9_uncovered : GoodIn wsX9_find wsX9_uncovered := goodIn_r _ [32, 2, 5, 3, 33, 34, 35, 36, 37, 38, 39, 40, 41, 42, 43, 44, 45, 46, 47, 48, 49, 50, 51, 52, 53, 54, 55, 56, 57, 58, 59, 60, 61, 62, 63, 64, 65, 66, 67, 68, 69, 70, 71, 72, 73, 74, 75, 76] (by decide +kernel) (by decide +kernel)
set_option maxRecDepth 20000 in
theorem gX9_find_X9_uncovered : GoodIn wsX9_find (wsV RX9 303 RX9 yX9_uncovered wsX9_uncovered) := goodIn_app (goodIn_of _ (by decide +kernel)) ggX9_find_X9_uncovered
theorem dX9_find_0 : decode cX9_find 0 = .ok (.iload_n 1, 1) := by decide +kernel
theorem dX9_find_1 : decode cX9_find 1 = .ok (.i2l, 1) := by decide +kernel
theorem dX9_find_2 : decode cX9_find 2 = .ok (.lconst 0, 1) := by decide +kernel
theorem dX9_find_3 : decode cX9_find 3 = .ok (.ldc2_w 283, 3) := by decide +kernel
theorem dX9_find_6 : decode cX9_find 6 = .ok (.invokestatic 112, 3) := by decide +kernel
theorem dX9_find_9 : decode cX9_find 9 = .ok (.ifCond .ne 5, 3) := by decide +kernel
theorem dX9_find_12 : decode cX9_find 12 = .ok (.iconst (-1), 1) := by decide +kernel
theorem dX9_find_13 : decode cX9_find 13 = .ok (.ireturn, 1) := by decide +kernel
theorem dX9_find_14 : decode cX9_find 14 = .ok (.aload_n 0, 1) := by decide +kernel
theorem dX9_find_15 : decode cX9_find 15 = .ok (.getfield 116, 3) := by decide +kernel
theorem dX9_find_18 : decode cX9_find 18 = .ok (.ifCond .ne 6, 3) := by decide +kernel
theorem dX9_find_21 : decode cX9_find 21 = .ok (.bipush (-5), 2) := by decide +kernel
theorem dX9_find_23 : decode cX9_find 23 = .ok (.ireturn, 1) := by decide +kernel
theorem dX9_find_24 : decode cX9_find 24 = .ok (.aload_n 0, 1) := by decide +kernel
theorem dX9_find_25 : decode cX9_find 25 = .ok (.invokevirtual 186, 3) := by decide +kernel
theorem dX9_find_28 : decode cX9_find 28 = .ok (.aload_n 0, 1) := by decide +kernel
theorem dX9_find_29 : decode cX9_find 29 = .ok (.iload_n 1, 1) := by decide +kernel
theorem dX9_find_30 : decode cX9_find 30 = .ok (.invokevirtual 300, 3) := by decide +kernel
theorem dX9_find_33 : decode cX9_find 33 = .ok (.aload_n 0, 1) := by decide +kernel
theorem dX9_find_34 : decode cX9_find 34 = .ok (.iconst 0, 1) := by decide +kernel
theorem dX9_find_35 : decode cX9_find 35 = .ok (.putfield 297, 3) := by decide +kernel
theorem dX9_find_38 : decode cX9_find 38 = .ok (.aload_n 0, 1) := by decide +kernel
theorem dX9_find_39 : decode cX9_find 39 = .ok (.getfield 88, 3) := by decide +kernel
theorem dX9_find_42 : decode cX9_find 42 = .ok (.iconst 0, 1) := by decide +kernel
theorem dX9_find_43 : decode cX9_find 43 = .ok (.iconst (-1), 1) := by decide +kernel
theorem dX9_find_44 : decode cX9_find 44 = .ok (.iastore, 1) := by decide +kernel
theorem dX9_find_45 : decode cX9_find 45 = .ok (.aload_n 0, 1) := by decide +kernel
theorem dX9_find_46 : decode cX9_find 46 = .ok (.getfield 94, 3) := by decide +kernel
theorem dX9_find_49 : decode cX9_find 49 = .ok (.iconst 0, 1) := by decide +kernel
theorem dX9_find_50 : decode cX9_find 50 = .ok (.iconst 0, 1) := by decide +kernel
theorem dX9_find_51 : decode cX9_find 51 = .ok (.iastore, 1) := by decide +kernel
theorem dX9_find_52 : decode cX9_find 52 = .ok (.iconst 0, 1) := by decide +kernel
theorem dX9_find_53 : decode cX9_find 53 = .ok (.istore_n 2, 1) := by decide +kernel
theorem dX9_find_54 : decode cX9_find 54 = .ok (.aload_n 0, 1) := by decide +kernel
theorem dX9_find_55 : decode cX9_find 55 = .ok (.getfield 297, 3) := by decide +kernel
theorem dX9_find_58 : decode cX9_find 58 = .ok (.ifCond .lt 188, 3) := by decide +kernel
theorem dX9_find_61 : decode cX9_find 61 = .ok (.aload_n 0, 1) := by decide +kernel
theorem dX9_find_62 : decode cX9_find 62 = .ok (.invokevirtual 303, 3) := by decide +kernel
theorem dX9_find_65 : decode cX9_find 65 = .ok (.istore_n 3, 1) := by decide +kernel
theorem dX9_find_66 : decode cX9_find 66 = .ok (.iload_n 3, 1) := by decide +kernel
theorem dX9_find_67 : decode cX9_find 67 = .ok (.aload_n 0, 1) := by decide +kernel
theorem dX9_find_68 : decode cX9_find 68 = .ok (.getfield 116, 3) := by decide +kernel
theorem dX9_find_71 : decode cX9_find 71 = .ok (.if_icmp .ne 5, 3) := by decide +kernel
theorem dX9_find_74 : decode cX9_find 74 = .ok (.iconst 0, 1) := by decide +kernel
theorem dX9_find_75 : decode cX9_find 75 = .ok (.ireturn, 1) := by decide +kernel
theorem dX9_find_76 : decode cX9_find 76 = .ok (.aload_n 0, 1) := by decide +kernel
theorem dX9_find_77 : decode cX9_find 77 = .ok (.getfield 88, 3) := by decide +kernel
theorem dX9_find_80 : decode cX9_find 80 = .ok (.aload_n 0, 1) := by decide +kernel
theorem dX9_find_81 : decode cX9_find 81 = .ok (.getfield 297, 3) := by decide +kernel
theorem dX9_find_84 : decode cX9_find 84 = .ok (.iaload, 1) := by decide +kernel
theorem dX9_find_85 : decode cX9_find 85 = .ok (.iconst 1, 1) := by decide +kernel
theorem dX9_find_86 : decode cX9_find 86 = .ok (.iadd, 1) := by decide +kernel
theorem dX9_find_87 : decode cX9_find 87 = .ok (.istore 4, 2) := by decide +kernel
theorem dX9_find_89 : decode cX9_find 89 = .ok (.iload 4, 2) := by decide +kernel
theorem dX9_find_91 : decode cX9_find 91 = .ok (.aload_n 0, 1) := by decide +kernel
theorem dX9_find_92 : decode cX9_find 92 = .ok (.getfield 116, 3) := by decide +kernel
theorem dX9_find_95 : decode cX9_find 95 = .ok (.if_icmp .ge 43, 3) := by decide +kernel
theorem dX9_find_98 : decode cX9_find 98 = .ok (.aload_n 0, 1) := by decide +kernel
theorem dX9_find_99 : decode cX9_find 99 = .ok (.getfield 91, 3) := by decide +kernel
theorem dX9_find_102 : decode cX9_find 102 = .ok (.iload_n 3, 1) := by decide +kernel
theorem dX9_find_103 : decode cX9_find 103 = .ok (.iaload, 1) := by decide +kernel
theorem dX9_find_104 : decode cX9_find 104 = .ok (.iload 4, 2) := by decide +kernel
theorem dX9_find_106 : decode cX9_find 106 = .ok (.ishr, 1) := by decide +kernel
theorem dX9_find_107 : decode cX9_find 107 = .ok (.iconst 1, 1) := by decide +kernel
theorem dX9_find_108 : decode cX9_find 108 = .ok (.iand, 1) := by decide +kernel
theorem dX9_find_109 : decode cX9_find 109 = .ok (.ifCond .eq 23, 3) := by decide +kernel
theorem dX9_find_112 : decode cX9_find 112 = .ok (.aload_n 0, 1) := by decide +kernel
theorem dX9_find_113 : decode cX9_find 113 = .ok (.getfield 91, 3) := by decide +kernel
theorem dX9_find_116 : decode cX9_find 116 = .ok (.iload 4, 2) := by decide +kernel
theorem dX9_find_118 : decode cX9_find 118 = .ok (.iaload, 1) := by decide +kernel
theorem dX9_find_119 : decode cX9_find 119 = .ok (.aload_n 0, 1) := by decide +kernel
theorem dX9_find_120 : decode cX9_find 120 = .ok (.getfield 94, 3) := by decide +kernel
theorem dX9_find_123 : decode cX9_find 123 = .ok (.aload_n 0, 1) := by decide +kernel
theorem dX9_find_124 : decode cX9_find 124 = .ok (.getfield 297, 3) := by decide +kernel
theorem dX9_find_127 : decode cX9_find 127 = .ok (.iaload, 1) := by decide +kernel
theorem dX9_find_128 : decode cX9_find 128 = .ok (.iand, 1) := by decide +kernel
theorem dX9_find_129 : decode cX9_find 129 = .ok (.ifCond .eq 9, 3) := by decide +kernel
theorem dX9_find_132 : decode cX9_find 132 = .ok (.iinc 4 1, 3) := by decide +kernel
theorem dX9_find_135 : decode cX9_find 135 = .ok (.goto (-46), 3) := by decide +kernel
theorem dX9_find_138 : decode cX9_find 138 = .ok (.aload_n 0, 1) := by decide +kernel
theorem dX9_find_139 : decode cX9_find 139 = .ok (.getfield 88, 3) := by decide +kernel
theorem dX9_find_142 : decode cX9_find 142 = .ok (.aload_n 0, 1) := by decide +kernel
theorem dX9_find_143 : decode cX9_find 143 = .ok (.getfield 297, 3) := by decide +kernel
theorem dX9_find_146 : decode cX9_find 146 = .ok (.iload 4, 2) := by decide +kernel
theorem dX9_find_148 : decode cX9_find 148 = .ok (.iastore, 1) := by decide +kernel
theorem dX9_find_149 : decode cX9_find 149 = .ok (.iload 4, 2) := by decide +kernel
theorem dX9_find_151 : decode cX9_find 151 = .ok (.aload_n 0, 1) := by decide +kernel
theorem dX9_find_152 : decode cX9_find 152 = .ok (.getfield 116, 3) := by decide +kernel
theorem dX9_find_155 : decode cX9_find 155 = .ok (.if_icmp .ne 16, 3) := by decide +kernel
theorem dX9_find_158 : decode cX9_find 158 = .ok (.aload_n 0, 1) := by decide +kernel
theorem dX9_find_159 : decode cX9_find 159 = .ok (.dup, 1) := by decide +kernel
theorem dX9_find_160 : decode cX9_find 160 = .ok (.getfield 297, 3) := by decide +kernel
theorem dX9_find_163 : decode cX9_find 163 = .ok (.iconst 1, 1) := by decide +kernel
theorem dX9_find_164 : decode cX9_find 164 = .ok (.isub, 1) := by decide +kernel
theorem dX9_find_165 : decode cX9_find 165 = .ok (.putfield 297, 3) := by decide +kernel
theorem dX9_find_168 : decode cX9_find 168 = .ok (.goto 75, 3) := by decide +kernel
theorem dX9_find_171 : decode cX9_find 171 = .ok (.iload_n 2, 1) := by decide +kernel
theorem dX9_find_172 : decode cX9_find 172 = .ok (.sipush 20000, 3) := by decide +kernel
theorem dX9_find_175 : decode cX9_find 175 = .ok (.if_icmp .ne 6, 3) := by decide +kernel
theorem dX9_find_178 : decode cX9_find 178 = .ok (.bipush (-7), 2) := by decide +kernel
theorem dX9_find_180 : decode cX9_find 180 = .ok (.ireturn, 1) := by decide +kernel
theorem dX9_find_181 : decode cX9_find 181 = .ok (.iinc 2 1, 3) := by decide +kernel
theorem dX9_find_184 : decode cX9_find 184 = .ok (.aload_n 0, 1) := by decide +kernel
theorem dX9_find_185 : decode cX9_find 185 = .ok (.getfield 85, 3) := by decide +kernel
theorem dX9_find_188 : decode cX9_find 188 = .ok (.aload_n 0, 1) := by decide +kernel
theorem dX9_find_189 : decode cX9_find 189 = .ok (.getfield 297, 3) := by decide +kernel
theorem dX9_find_192 : decode cX9_find 192 = .ok (.iload 4, 2) := by decide +kernel
theorem dX9_find_194 : decode cX9_find 194 = .ok (.iastore, 1) := by decide +kernel
theorem dX9_find_195 : decode cX9_find 195 = .ok (.aload_n 0, 1) := by decide +kernel
theorem dX9_find_196 : decode cX9_find 196 = .ok (.getfield 94, 3) := by decide +kernel
theorem dX9_find_199 : decode cX9_find 199 = .ok (.aload_n 0, 1) := by decide +kernel
theorem dX9_find_200 : decode cX9_find 200 = .ok (.getfield 297, 3) := by decide +kernel
theorem dX9_find_203 : decode cX9_find 203 = .ok (.iconst 1, 1) := by decide +kernel
theorem dX9_find_204 : decode cX9_find 204 = .ok (.iadd, 1) := by decide +kernel
theorem dX9_find_205 : decode cX9_find 205 = .ok (.aload_n 0, 1) := by decide +kernel
theorem dX9_find_206 : decode cX9_find 206 = .ok (.getfield 94, 3) := by decide +kernel
theorem dX9_find_209 : decode cX9_find 209 = .ok (.aload_n 0, 1) := by decide +kernel
theorem dX9_find_210 : decode cX9_find 210 = .ok (.getfield 297, 3) := by decide +kernel
theorem dX9_find_213 : decode cX9_find 213 = .ok (.iaload, 1) := by decide +kernel
theorem dX9_find_214 : decode cX9_find 214 = .ok (.aload_n 0, 1) := by decide +kernel
theorem dX9_find_215 : decode cX9_find 215 = .ok (.getfield 91, 3) := by decide +kernel
theorem dX9_find_218 : decode cX9_find 218 = .ok (.iload 4, 2) := by decide +kernel
theorem dX9_find_220 : decode cX9_find 220 = .ok (.iaload, 1) := by decide +kernel
theorem dX9_find_221 : decode cX9_find 221 = .ok (.ior, 1) := by decide +kernel
theorem dX9_find_222 : decode cX9_find 222 = .ok (.iastore, 1) := by decide +kernel
theorem dX9_find_223 : decode cX9_find 223 = .ok (.aload_n 0, 1) := by decide +kernel
theorem dX9_find_224 : decode cX9_find 224 = .ok (.dup, 1) := by decide +kernel
theorem dX9_find_225 : decode cX9_find 225 = .ok (.getfield 297, 3) := by decide +kernel
theorem dX9_find_228 : decode cX9_find 228 = .ok (.iconst 1, 1) := by decide +kernel
theorem dX9_find_229 : decode cX9_find 229 = .ok (.iadd, 1) := by decide +kernel
theorem dX9_find_230 : decode cX9_find 230 = .ok (.putfield 297, 3) := by decide +kernel
theorem dX9_find_233 : decode cX9_find 233 = .ok (.aload_n 0, 1) := by decide +kernel
theorem dX9_find_234 : decode cX9_find 234 = .ok (.getfield 88, 3) := by decide +kernel
theorem dX9_find_237 : decode cX9_find 237 = .ok (.aload_n 0, 1) := by decide +kernel
theorem dX9_find_238 : decode cX9_find 238 = .ok (.getfield 297, 3) := by decide +kernel
theorem dX9_find_241 : decode cX9_find 241 = .ok (.iconst (-1), 1) := by decide +kernel
theorem dX9_find_242 : decode cX9_find 242 = .ok (.iastore, 1) := by decide +kernel
theorem dX9_find_243 : decode cX9_find 243 = .ok (.goto (-189), 3) := by decide +kernel
theorem dX9_find_246 : decode cX9_find 246 = .ok (.bipush (-8), 2) := by decide +kernel
theorem dX9_find_248 : decode cX9_find 248 = .ok (.ireturn, 1) := by decide +kernel
set_option maxRecDepth 20000 in
theorem ggX9_perfect_X9_find : GoodIn wsX9_perfect wsX9_find := goodIn_r _ [6, 7, 8, 1, 9, 10, 11, 12, 13, 14, 5, 15, 16, 17, 18, 19, 20, 21, 22, 23, 24, 25, 26, 27, 28, 29, 30, 31, 32, 33, 34, 35, 36, 37, 38, 39, 40, 41, 42, 43, 44, 45, 46, 47, 48, 49, 50, 51, 52, 53, 54, 55, 56, 57, 58, 59, 60, 61, 62, 63, 64, 65, 66, 67, 68, 69, 70, 71, 72, 73, 74, 75, 76, 77, 78, 79, 80] (by decide +kernel) (by decide +kernel)
set_option maxRecDepth 20000 in
theorem gX9_perfect_X9_find : GoodIn wsX9_perfect (wsV RX9 306 RX9 yX9_find wsX9_find) := goodIn_app (goodIn_of _ (by decide +kernel)) ggX9_perfect_X9_find
theorem dX9_perfect_0 : decode cX9_perfect 0 = .ok (.aload_n 0, 1) := by decide +kernel
theorem dX9_perfect_1 : decode cX9_perfect 1 = .ok (.iload_n 1, 1) := by decide +kernel
theorem dX9_perfect_2 : decode cX9_perfect 2 = .ok (.invokevirtual 306, 3) := by decide +kernel
theorem dX9_perfect_5 : decode cX9_perfect 5 = .ok (.istore_n 2, 1) := by decide +kernel
theorem dX9_perfect_6 : decode cX9_perfect 6 = .ok (.iload_n 2, 1) := by decide +kernel
theorem dX9_perfect_7 : decode cX9_perfect 7 = .ok (.ifCond .eq 7, 3) := by decide +kernel
theorem dX9_perfect_10 : decode cX9_perfect 10 = .ok (.iload_n 2, 1) := by decide +kernel
theorem dX9_perfect_11 : decode cX9_perfect 11 = .ok (.goto 7, 3) := by decide +kernel
theorem dX9_perfect_14 : decode cX9_perfect 14 = .ok (.aload_n 0, 1) := by decide +kernel
theorem dX9_perfect_15 : decode cX9_perfect 15 = .ok (.getfield 297, 3) := by decide +kernel
theorem dX9_perfect_18 : decode cX9_perfect 18 = .ok (.ireturn, 1) := by decide +kernel
set_option maxRecDepth 20000 in
theorem ggX9_heap_X9_find : GoodIn wsX9_heap wsX9_find := goodIn_r _ [7, 8, 9, 1, 10, 11, 12, 2, 13, 14, 6, 15, 16, 17, 18, 19, 20, 21, 22, 23, 24, 25, 26, 27, 28, 29, 30, 31, 32, 33, 34, 35, 36, 37, 38, 39, 40, 41, 42, 43, 44, 45, 46, 47, 48, 49, 50, 51, 52, 53, 54, 55, 56, 57, 58, 59, 60, 61, 62, 63, 64, 65, 66, 67, 68, 69, 70, 71, 72, 73, 74, 75, 76, 77, 78, 79, 80] (by decide +kernel) (by decide +kernel)
set_option maxRecDepth 20000 in
theorem gX9_heap_X9_find : GoodIn wsX9_heap (wsV RX9 306 RX9 yX9_find wsX9_find) := goodIn_app (goodIn_of _ (by decide +kernel)) ggX9_heap_X9_find
set_option maxRecDepth 20000 in
theorem ggX9_heap_X9_in : GoodIn wsX9_heap wsX9_in := goodIn_r _ [15] (by decide +kernel) (by decide +kernel)
set_option maxRecDepth 20000 in
theorem gX9_heap_X9_in : GoodIn wsX9_heap (va_wsS RX9 112 yX9_in wsX9_in) := goodIn_app (goodIn_of _ (by decide +kernel)) ggX9_heap_X9_in
theorem dX9_heap_0 : decode cX9_heap 0 = .ok (.aload_n 0, 1) := by decide +kernel
theorem dX9_heap_1 : decode cX9_heap 1 = .ok (.iload_n 1, 1) := by decide +kernel
theorem dX9_heap_2 : decode cX9_heap 2 = .ok (.invokevirtual 306, 3) := by decide +kernel
theorem dX9_heap_5 : decode cX9_heap 5 = .ok (.istore_n 3, 1) := by decide +kernel
theorem dX9_heap_6 : decode cX9_heap 6 = .ok (.iload_n 3, 1) := by decide +kernel
theorem dX9_heap_7 : decode cX9_heap 7 = .ok (.ifCond .eq 7, 3) := by decide +kernel
theorem dX9_heap_10 : decode cX9_heap 10 = .ok (.iload_n 3, 1) := by decide +kernel
theorem dX9_heap_11 : decode cX9_heap 11 = .ok (.goto 30, 3) := by decide +kernel
theorem dX9_heap_14 : decode cX9_heap 14 = .ok (.iload_n 2, 1) := by decide +kernel
theorem dX9_heap_15 : decode cX9_heap 15 = .ok (.i2l, 1) := by decide +kernel
theorem dX9_heap_16 : decode cX9_heap 16 = .ok (.lconst 0, 1) := by decide +kernel
theorem dX9_heap_17 : decode cX9_heap 17 = .ok (.aload_n 0, 1) := by decide +kernel
theorem dX9_heap_18 : decode cX9_heap 18 = .ok (.getfield 297, 3) := by decide +kernel
theorem dX9_heap_21 : decode cX9_heap 21 = .ok (.iconst 1, 1) := by decide +kernel
theorem dX9_heap_22 : decode cX9_heap 22 = .ok (.isub, 1) := by decide +kernel
theorem dX9_heap_23 : decode cX9_heap 23 = .ok (.i2l, 1) := by decide +kernel
theorem dX9_heap_24 : decode cX9_heap 24 = .ok (.invokestatic 112, 3) := by decide +kernel
theorem dX9_heap_27 : decode cX9_heap 27 = .ok (.ifCond .eq 12, 3) := by decide +kernel
theorem dX9_heap_30 : decode cX9_heap 30 = .ok (.aload_n 0, 1) := by decide +kernel
theorem dX9_heap_31 : decode cX9_heap 31 = .ok (.getfield 85, 3) := by decide +kernel
theorem dX9_heap_34 : decode cX9_heap 34 = .ok (.iload_n 2, 1) := by decide +kernel
theorem dX9_heap_35 : decode cX9_heap 35 = .ok (.iaload, 1) := by decide +kernel
theorem dX9_heap_36 : decode cX9_heap 36 = .ok (.goto 5, 3) := by decide +kernel
theorem dX9_heap_39 : decode cX9_heap 39 = .ok (.bipush (-8), 2) := by decide +kernel
theorem dX9_heap_41 : decode cX9_heap 41 = .ok (.ireturn, 1) := by decide +kernel
theorem dX9_sign_0 : decode cX9_sign 0 = .ok (.bipush 32, 2) := by decide +kernel
theorem dX9_sign_2 : decode cX9_sign 2 = .ok (.bipush 32, 2) := by decide +kernel
theorem dX9_sign_4 : decode cX9_sign 4 = .ok (.iload_n 1, 1) := by decide +kernel
theorem dX9_sign_5 : decode cX9_sign 5 = .ok (.imul, 1) := by decide +kernel
theorem dX9_sign_6 : decode cX9_sign 6 = .ok (.iload_n 2, 1) := by decide +kernel
theorem dX9_sign_7 : decode cX9_sign 7 = .ok (.iadd, 1) := by decide +kernel
theorem dX9_sign_8 : decode cX9_sign 8 = .ok (.imul, 1) := by decide +kernel
theorem dX9_sign_9 : decode cX9_sign 9 = .ok (.istore_n 3, 1) := by decide +kernel
theorem dX9_sign_10 : decode cX9_sign 10 = .ok (.iconst 0, 1) := by decide +kernel
theorem dX9_sign_11 : decode cX9_sign 11 = .ok (.istore 4, 2) := by decide +kernel
theorem dX9_sign_13 : decode cX9_sign 13 = .ok (.iload 4, 2) := by decide +kernel
theorem dX9_sign_15 : decode cX9_sign 15 = .ok (.aload_n 0, 1) := by decide +kernel
theorem dX9_sign_16 : decode cX9_sign 16 = .ok (.getfield 116, 3) := by decide +kernel
theorem dX9_sign_19 : decode cX9_sign 19 = .ok (.if_icmp .ge 102, 3) := by decide +kernel
theorem dX9_sign_22 : decode cX9_sign 22 = .ok (.sipush 1024, 3) := by decide +kernel
theorem dX9_sign_25 : decode cX9_sign 25 = .ok (.aload_n 0, 1) := by decide +kernel
theorem dX9_sign_26 : decode cX9_sign 26 = .ok (.getfield 97, 3) := by decide +kernel
theorem dX9_sign_29 : decode cX9_sign 29 = .ok (.bipush 32, 2) := by decide +kernel
theorem dX9_sign_31 : decode cX9_sign 31 = .ok (.iload_n 1, 1) := by decide +kernel
theorem dX9_sign_32 : decode cX9_sign 32 = .ok (.imul, 1) := by decide +kernel
theorem dX9_sign_33 : decode cX9_sign 33 = .ok (.iload 4, 2) := by decide +kernel
theorem dX9_sign_35 : decode cX9_sign 35 = .ok (.iadd, 1) := by decide +kernel
theorem dX9_sign_36 : decode cX9_sign 36 = .ok (.iaload, 1) := by decide +kernel
theorem dX9_sign_37 : decode cX9_sign 37 = .ok (.imul, 1) := by decide +kernel
theorem dX9_sign_38 : decode cX9_sign 38 = .ok (.aload_n 0, 1) := by decide +kernel
theorem dX9_sign_39 : decode cX9_sign 39 = .ok (.getfield 97, 3) := by decide +kernel
theorem dX9_sign_42 : decode cX9_sign 42 = .ok (.bipush 32, 2) := by decide +kernel
theorem dX9_sign_44 : decode cX9_sign 44 = .ok (.iload 4, 2) := by decide +kernel
theorem dX9_sign_46 : decode cX9_sign 46 = .ok (.imul, 1) := by decide +kernel
theorem dX9_sign_47 : decode cX9_sign 47 = .ok (.iload_n 2, 1) := by decide +kernel
theorem dX9_sign_48 : decode cX9_sign 48 = .ok (.iadd, 1) := by decide +kernel
theorem dX9_sign_49 : decode cX9_sign 49 = .ok (.iaload, 1) := by decide +kernel
theorem dX9_sign_50 : decode cX9_sign 50 = .ok (.iadd, 1) := by decide +kernel
theorem dX9_sign_51 : decode cX9_sign 51 = .ok (.istore 5, 2) := by decide +kernel
theorem dX9_sign_53 : decode cX9_sign 53 = .ok (.iload 4, 2) := by decide +kernel
theorem dX9_sign_55 : decode cX9_sign 55 = .ok (.istore 6, 2) := by decide +kernel
theorem dX9_sign_57 : decode cX9_sign 57 = .ok (.iload 6, 2) := by decide +kernel
theorem dX9_sign_59 : decode cX9_sign 59 = .ok (.ifCond .le 45, 3) := by decide +kernel
theorem dX9_sign_62 : decode cX9_sign 62 = .ok (.aload_n 0, 1) := by decide +kernel
theorem dX9_sign_63 : decode cX9_sign 63 = .ok (.getfield 104, 3) := by decide +kernel
theorem dX9_sign_66 : decode cX9_sign 66 = .ok (.iload_n 3, 1) := by decide +kernel
theorem dX9_sign_67 : decode cX9_sign 67 = .ok (.iload 6, 2) := by decide +kernel
theorem dX9_sign_69 : decode cX9_sign 69 = .ok (.iadd, 1) := by decide +kernel
theorem dX9_sign_70 : decode cX9_sign 70 = .ok (.iconst 1, 1) := by decide +kernel
theorem dX9_sign_71 : decode cX9_sign 71 = .ok (.isub, 1) := by decide +kernel
theorem dX9_sign_72 : decode cX9_sign 72 = .ok (.iaload, 1) := by decide +kernel
theorem dX9_sign_73 : decode cX9_sign 73 = .ok (.iload 5, 2) := by decide +kernel
theorem dX9_sign_75 : decode cX9_sign 75 = .ok (.if_icmp .le 29, 3) := by decide +kernel
theorem dX9_sign_78 : decode cX9_sign 78 = .ok (.aload_n 0, 1) := by decide +kernel
theorem dX9_sign_79 : decode cX9_sign 79 = .ok (.getfield 104, 3) := by decide +kernel
theorem dX9_sign_82 : decode cX9_sign 82 = .ok (.iload_n 3, 1) := by decide +kernel
theorem dX9_sign_83 : decode cX9_sign 83 = .ok (.iload 6, 2) := by decide +kernel
theorem dX9_sign_85 : decode cX9_sign 85 = .ok (.iadd, 1) := by decide +kernel
theorem dX9_sign_86 : decode cX9_sign 86 = .ok (.aload_n 0, 1) := by decide +kernel
theorem dX9_sign_87 : decode cX9_sign 87 = .ok (.getfield 104, 3) := by decide +kernel
theorem dX9_sign_90 : decode cX9_sign 90 = .ok (.iload_n 3, 1) := by decide +kernel
theorem dX9_sign_91 : decode cX9_sign 91 = .ok (.iload 6, 2) := by decide +kernel
theorem dX9_sign_93 : decode cX9_sign 93 = .ok (.iadd, 1) := by decide +kernel
theorem dX9_sign_94 : decode cX9_sign 94 = .ok (.iconst 1, 1) := by decide +kernel
theorem dX9_sign_95 : decode cX9_sign 95 = .ok (.isub, 1) := by decide +kernel
theorem dX9_sign_96 : decode cX9_sign 96 = .ok (.iaload, 1) := by decide +kernel
theorem dX9_sign_97 : decode cX9_sign 97 = .ok (.iastore, 1) := by decide +kernel
theorem dX9_sign_98 : decode cX9_sign 98 = .ok (.iinc 6 (-1), 3) := by decide +kernel
theorem dX9_sign_101 : decode cX9_sign 101 = .ok (.goto (-44), 3) := by decide +kernel
theorem dX9_sign_104 : decode cX9_sign 104 = .ok (.aload_n 0, 1) := by decide +kernel
theorem dX9_sign_105 : decode cX9_sign 105 = .ok (.getfield 104, 3) := by decide +kernel
theorem dX9_sign_108 : decode cX9_sign 108 = .ok (.iload_n 3, 1) := by decide +kernel
theorem dX9_sign_109 : decode cX9_sign 109 = .ok (.iload 6, 2) := by decide +kernel
theorem dX9_sign_111 : decode cX9_sign 111 = .ok (.iadd, 1) := by decide +kernel
theorem dX9_sign_112 : decode cX9_sign 112 = .ok (.iload 5, 2) := by decide +kernel
theorem dX9_sign_114 : decode cX9_sign 114 = .ok (.iastore, 1) := by decide +kernel
theorem dX9_sign_115 : decode cX9_sign 115 = .ok (.iinc 4 1, 3) := by decide +kernel
theorem dX9_sign_118 : decode cX9_sign 118 = .ok (.goto (-105), 3) := by decide +kernel
theorem dX9_sign_121 : decode cX9_sign 121 = .ok (.return_, 1) := by decide +kernel
theorem dX9_areAlike_0 : decode cX9_areAlike 0 = .ok (.aload_n 0, 1) := by decide +kernel
theorem dX9_areAlike_1 : decode cX9_areAlike 1 = .ok (.getfield 97, 3) := by decide +kernel
theorem dX9_areAlike_4 : decode cX9_areAlike 4 = .ok (.iload_n 1, 1) := by decide +kernel
theorem dX9_areAlike_5 : decode cX9_areAlike 5 = .ok (.iaload, 1) := by decide +kernel
theorem dX9_areAlike_6 : decode cX9_areAlike 6 = .ok (.aload_n 0, 1) := by decide +kernel
theorem dX9_areAlike_7 : decode cX9_areAlike 7 = .ok (.getfield 97, 3) := by decide +kernel
theorem dX9_areAlike_10 : decode cX9_areAlike 10 = .ok (.iload_n 2, 1) := by decide +kernel
theorem dX9_areAlike_11 : decode cX9_areAlike 11 = .ok (.iaload, 1) := by decide +kernel
theorem dX9_areAlike_12 : decode cX9_areAlike 12 = .ok (.if_icmp .ne 7, 3) := by decide +kernel
theorem dX9_areAlike_15 : decode cX9_areAlike 15 = .ok (.iconst 1, 1) := by decide +kernel
theorem dX9_areAlike_16 : decode cX9_areAlike 16 = .ok (.goto 4, 3) := by decide +kernel
theorem dX9_areAlike_19 : decode cX9_areAlike 19 = .ok (.iconst 0, 1) := by decide +kernel
theorem dX9_areAlike_20 : decode cX9_areAlike 20 = .ok (.istore_n 3, 1) := by decide +kernel
theorem dX9_areAlike_21 : decode cX9_areAlike 21 = .ok (.iconst 0, 1) := by decide +kernel
theorem dX9_areAlike_22 : decode cX9_areAlike 22 = .ok (.istore 4, 2) := by decide +kernel
theorem dX9_areAlike_24 : decode cX9_areAlike 24 = .ok (.iload 4, 2) := by decide +kernel
theorem dX9_areAlike_26 : decode cX9_areAlike 26 = .ok (.aload_n 0, 1) := by decide +kernel
theorem dX9_areAlike_27 : decode cX9_areAlike 27 = .ok (.getfield 116, 3) := by decide +kernel
theorem dX9_areAlike_30 : decode cX9_areAlike 30 = .ok (.if_icmp .ge 46, 3) := by decide +kernel
theorem dX9_areAlike_33 : decode cX9_areAlike 33 = .ok (.iload_n 3, 1) := by decide +kernel
theorem dX9_areAlike_34 : decode cX9_areAlike 34 = .ok (.ifCond .eq 42, 3) := by decide +kernel
theorem dX9_areAlike_37 : decode cX9_areAlike 37 = .ok (.aload_n 0, 1) := by decide +kernel
theorem dX9_areAlike_38 : decode cX9_areAlike 38 = .ok (.getfield 104, 3) := by decide +kernel
theorem dX9_areAlike_41 : decode cX9_areAlike 41 = .ok (.bipush 32, 2) := by decide +kernel
theorem dX9_areAlike_43 : decode cX9_areAlike 43 = .ok (.iload_n 1, 1) := by decide +kernel
theorem dX9_areAlike_44 : decode cX9_areAlike 44 = .ok (.imul, 1) := by decide +kernel
theorem dX9_areAlike_45 : decode cX9_areAlike 45 = .ok (.iload 4, 2) := by decide +kernel
theorem dX9_areAlike_47 : decode cX9_areAlike 47 = .ok (.iadd, 1) := by decide +kernel
theorem dX9_areAlike_48 : decode cX9_areAlike 48 = .ok (.iaload, 1) := by decide +kernel
theorem dX9_areAlike_49 : decode cX9_areAlike 49 = .ok (.aload_n 0, 1) := by decide +kernel
theorem dX9_areAlike_50 : decode cX9_areAlike 50 = .ok (.getfield 104, 3) := by decide +kernel
theorem dX9_areAlike_53 : decode cX9_areAlike 53 = .ok (.bipush 32, 2) := by decide +kernel
theorem dX9_areAlike_55 : decode cX9_areAlike 55 = .ok (.iload_n 2, 1) := by decide +kernel
theorem dX9_areAlike_56 : decode cX9_areAlike 56 = .ok (.imul, 1) := by decide +kernel
theorem dX9_areAlike_57 : decode cX9_areAlike 57 = .ok (.iload 4, 2) := by decide +kernel
theorem dX9_areAlike_59 : decode cX9_areAlike 59 = .ok (.iadd, 1) := by decide +kernel
theorem dX9_areAlike_60 : decode cX9_areAlike 60 = .ok (.iaload, 1) := by decide +kernel
theorem dX9_areAlike_61 : decode cX9_areAlike 61 = .ok (.if_icmp .ne 7, 3) := by decide +kernel
theorem dX9_areAlike_64 : decode cX9_areAlike 64 = .ok (.iconst 1, 1) := by decide +kernel
theorem dX9_areAlike_65 : decode cX9_areAlike 65 = .ok (.goto 4, 3) := by decide +kernel
theorem dX9_areAlike_68 : decode cX9_areAlike 68 = .ok (.iconst 0, 1) := by decide +kernel
theorem dX9_areAlike_69 : decode cX9_areAlike 69 = .ok (.istore_n 3, 1) := by decide +kernel
theorem dX9_areAlike_70 : decode cX9_areAlike 70 = .ok (.iinc 4 1, 3) := by decide +kernel
theorem dX9_areAlike_73 : decode cX9_areAlike 73 = .ok (.goto (-49), 3) := by decide +kernel
theorem dX9_areAlike_76 : decode cX9_areAlike 76 = .ok (.iload_n 3, 1) := by decide +kernel
theorem dX9_areAlike_77 : decode cX9_areAlike 77 = .ok (.ireturn, 1) := by decide +kernel
set_option maxRecDepth 20000 in
theorem ggX9_partOnce_X9_sign : GoodIn wsX9_partOnce wsX9_sign := goodIn_r _ [9, 1, 4, 10, 15, 16, 17, 18, 19, 20, 21, 22, 23, 24, 25, 26, 27, 28, 29, 30, 31, 32, 33, 34, 35, 36, 37, 38, 39, 40, 41, 42, 43, 44, 45, 46, 47, 48, 49, 50, 51, 52, 53, 54, 55, 56, 57, 58] (by decide +kernel) (by decide +kernel)
set_option maxRecDepth 20000 in
theorem gX9_partOnce_X9_sign : GoodIn wsX9_partOnce (wsV RX9 309 RX9 yX9_sign wsX9_sign) := goodIn_app (goodIn_of _ (by decide +kernel)) ggX9_partOnce_X9_sign
set_option maxRecDepth 20000 in
theorem ggX9_partOnce_X9_areAlike : GoodIn wsX9_partOnce wsX9_areAlike := goodIn_r _ [14, 4, 1, 10, 15, 16, 17, 18, 19, 20, 21, 22, 23, 24, 25, 26, 27, 28, 29, 30, 31, 32, 33, 34, 35, 36, 37, 38, 39, 40, 41, 42, 43, 44, 45, 46, 47, 48, 49, 50, 51, 52, 53, 54, 55, 56, 57, 58] (by decide +kernel) (by decide +kernel)
set_option maxRecDepth 20000 in
theorem gX9_partOnce_X9_areAlike : GoodIn wsX9_partOnce (wsV RX9 313 RX9 yX9_areAlike wsX9_areAlike) := goodIn_app (goodIn_of _ (by decide +kernel)) ggX9_partOnce_X9_areAlike
theorem dX9_partOnce_0 : decode cX9_partOnce 0 = .ok (.iconst 0, 1) := by decide +kernel
theorem dX9_partOnce_1 : decode cX9_partOnce 1 = .ok (.istore_n 1, 1) := by decide +kernel
theorem dX9_partOnce_2 : decode cX9_partOnce 2 = .ok (.iload_n 1, 1) := by decide +kernel
theorem dX9_partOnce_3 : decode cX9_partOnce 3 = .ok (.aload_n 0, 1) := by decide +kernel
theorem dX9_partOnce_4 : decode cX9_partOnce 4 = .ok (.getfield 116, 3) := by decide +kernel
theorem dX9_partOnce_7 : decode cX9_partOnce 7 = .ok (.if_icmp .ge 31, 3) := by decide +kernel
theorem dX9_partOnce_10 : decode cX9_partOnce 10 = .ok (.iconst 0, 1) := by decide +kernel
theorem dX9_partOnce_11 : decode cX9_partOnce 11 = .ok (.istore_n 2, 1) := by decide +kernel
theorem dX9_partOnce_12 : decode cX9_partOnce 12 = .ok (.iload_n 2, 1) := by decide +kernel
theorem dX9_partOnce_13 : decode cX9_partOnce 13 = .ok (.aload_n 0, 1) := by decide +kernel
theorem dX9_partOnce_14 : decode cX9_partOnce 14 = .ok (.getfield 116, 3) := by decide +kernel
theorem dX9_partOnce_17 : decode cX9_partOnce 17 = .ok (.if_icmp .ge 15, 3) := by decide +kernel
theorem dX9_partOnce_20 : decode cX9_partOnce 20 = .ok (.aload_n 0, 1) := by decide +kernel
theorem dX9_partOnce_21 : decode cX9_partOnce 21 = .ok (.iload_n 1, 1) := by decide +kernel
theorem dX9_partOnce_22 : decode cX9_partOnce 22 = .ok (.iload_n 2, 1) := by decide +kernel
theorem dX9_partOnce_23 : decode cX9_partOnce 23 = .ok (.invokevirtual 309, 3) := by decide +kernel
theorem dX9_partOnce_26 : decode cX9_partOnce 26 = .ok (.iinc 2 1, 3) := by decide +kernel
theorem dX9_partOnce_29 : decode cX9_partOnce 29 = .ok (.goto (-17), 3) := by decide +kernel
theorem dX9_partOnce_32 : decode cX9_partOnce 32 = .ok (.iinc 1 1, 3) := by decide +kernel
theorem dX9_partOnce_35 : decode cX9_partOnce 35 = .ok (.goto (-33), 3) := by decide +kernel
theorem dX9_partOnce_38 : decode cX9_partOnce 38 = .ok (.iconst 0, 1) := by decide +kernel
theorem dX9_partOnce_39 : decode cX9_partOnce 39 = .ok (.istore_n 1, 1) := by decide +kernel
theorem dX9_partOnce_40 : decode cX9_partOnce 40 = .ok (.iconst 0, 1) := by decide +kernel
theorem dX9_partOnce_41 : decode cX9_partOnce 41 = .ok (.istore_n 2, 1) := by decide +kernel
theorem dX9_partOnce_42 : decode cX9_partOnce 42 = .ok (.iload_n 2, 1) := by decide +kernel
theorem dX9_partOnce_43 : decode cX9_partOnce 43 = .ok (.aload_n 0, 1) := by decide +kernel
theorem dX9_partOnce_44 : decode cX9_partOnce 44 = .ok (.getfield 116, 3) := by decide +kernel
theorem dX9_partOnce_47 : decode cX9_partOnce 47 = .ok (.if_icmp .ge 90, 3) := by decide +kernel
theorem dX9_partOnce_50 : decode cX9_partOnce 50 = .ok (.iconst 0, 1) := by decide +kernel
theorem dX9_partOnce_51 : decode cX9_partOnce 51 = .ok (.istore_n 3, 1) := by decide +kernel
theorem dX9_partOnce_52 : decode cX9_partOnce 52 = .ok (.iload_n 3, 1) := by decide +kernel
theorem dX9_partOnce_53 : decode cX9_partOnce 53 = .ok (.aload_n 0, 1) := by decide +kernel
theorem dX9_partOnce_54 : decode cX9_partOnce 54 = .ok (.getfield 116, 3) := by decide +kernel
theorem dX9_partOnce_57 : decode cX9_partOnce 57 = .ok (.if_icmp .ge 74, 3) := by decide +kernel
theorem dX9_partOnce_60 : decode cX9_partOnce 60 = .ok (.bipush 32, 2) := by decide +kernel
theorem dX9_partOnce_62 : decode cX9_partOnce 62 = .ok (.iload_n 2, 1) := by decide +kernel
theorem dX9_partOnce_63 : decode cX9_partOnce 63 = .ok (.imul, 1) := by decide +kernel
theorem dX9_partOnce_64 : decode cX9_partOnce 64 = .ok (.iload_n 3, 1) := by decide +kernel
theorem dX9_partOnce_65 : decode cX9_partOnce 65 = .ok (.iadd, 1) := by decide +kernel
theorem dX9_partOnce_66 : decode cX9_partOnce 66 = .ok (.istore 4, 2) := by decide +kernel
theorem dX9_partOnce_68 : decode cX9_partOnce 68 = .ok (.iconst 0, 1) := by decide +kernel
theorem dX9_partOnce_69 : decode cX9_partOnce 69 = .ok (.istore 5, 2) := by decide +kernel
theorem dX9_partOnce_71 : decode cX9_partOnce 71 = .ok (.iload 5, 2) := by decide +kernel
theorem dX9_partOnce_73 : decode cX9_partOnce 73 = .ok (.iload_n 1, 1) := by decide +kernel
theorem dX9_partOnce_74 : decode cX9_partOnce 74 = .ok (.if_icmp .ge 25, 3) := by decide +kernel
theorem dX9_partOnce_77 : decode cX9_partOnce 77 = .ok (.aload_n 0, 1) := by decide +kernel
theorem dX9_partOnce_78 : decode cX9_partOnce 78 = .ok (.aload_n 0, 1) := by decide +kernel
theorem dX9_partOnce_79 : decode cX9_partOnce 79 = .ok (.getfield 107, 3) := by decide +kernel
theorem dX9_partOnce_82 : decode cX9_partOnce 82 = .ok (.iload 5, 2) := by decide +kernel
theorem dX9_partOnce_84 : decode cX9_partOnce 84 = .ok (.iaload, 1) := by decide +kernel
theorem dX9_partOnce_85 : decode cX9_partOnce 85 = .ok (.iload 4, 2) := by decide +kernel
theorem dX9_partOnce_87 : decode cX9_partOnce 87 = .ok (.invokevirtual 313, 3) := by decide +kernel
theorem dX9_partOnce_90 : decode cX9_partOnce 90 = .ok (.ifCond .ne 9, 3) := by decide +kernel
theorem dX9_partOnce_93 : decode cX9_partOnce 93 = .ok (.iinc 5 1, 3) := by decide +kernel
theorem dX9_partOnce_96 : decode cX9_partOnce 96 = .ok (.goto (-25), 3) := by decide +kernel
theorem dX9_partOnce_99 : decode cX9_partOnce 99 = .ok (.iload 5, 2) := by decide +kernel
theorem dX9_partOnce_101 : decode cX9_partOnce 101 = .ok (.iload_n 1, 1) := by decide +kernel
theorem dX9_partOnce_102 : decode cX9_partOnce 102 = .ok (.if_icmp .ne 14, 3) := by decide +kernel
theorem dX9_partOnce_105 : decode cX9_partOnce 105 = .ok (.aload_n 0, 1) := by decide +kernel
theorem dX9_partOnce_106 : decode cX9_partOnce 106 = .ok (.getfield 107, 3) := by decide +kernel
theorem dX9_partOnce_109 : decode cX9_partOnce 109 = .ok (.iload_n 1, 1) := by decide +kernel
theorem dX9_partOnce_110 : decode cX9_partOnce 110 = .ok (.iload 4, 2) := by decide +kernel
theorem dX9_partOnce_112 : decode cX9_partOnce 112 = .ok (.iastore, 1) := by decide +kernel
theorem dX9_partOnce_113 : decode cX9_partOnce 113 = .ok (.iinc 1 1, 3) := by decide +kernel
theorem dX9_partOnce_116 : decode cX9_partOnce 116 = .ok (.aload_n 0, 1) := by decide +kernel
theorem dX9_partOnce_117 : decode cX9_partOnce 117 = .ok (.getfield 100, 3) := by decide +kernel
theorem dX9_partOnce_120 : decode cX9_partOnce 120 = .ok (.iload 4, 2) := by decide +kernel
theorem dX9_partOnce_122 : decode cX9_partOnce 122 = .ok (.iload 5, 2) := by decide +kernel
theorem dX9_partOnce_124 : decode cX9_partOnce 124 = .ok (.iastore, 1) := by decide +kernel
theorem dX9_partOnce_125 : decode cX9_partOnce 125 = .ok (.iinc 3 1, 3) := by decide +kernel
theorem dX9_partOnce_128 : decode cX9_partOnce 128 = .ok (.goto (-76), 3) := by decide +kernel
theorem dX9_partOnce_131 : decode cX9_partOnce 131 = .ok (.iinc 2 1, 3) := by decide +kernel
theorem dX9_partOnce_134 : decode cX9_partOnce 134 = .ok (.goto (-92), 3) := by decide +kernel
theorem dX9_partOnce_137 : decode cX9_partOnce 137 = .ok (.iconst 0, 1) := by decide +kernel
theorem dX9_partOnce_138 : decode cX9_partOnce 138 = .ok (.istore_n 2, 1) := by decide +kernel
theorem dX9_partOnce_139 : decode cX9_partOnce 139 = .ok (.iload_n 2, 1) := by decide +kernel
theorem dX9_partOnce_140 : decode cX9_partOnce 140 = .ok (.sipush 1024, 3) := by decide +kernel
theorem dX9_partOnce_143 : decode cX9_partOnce 143 = .ok (.if_icmp .ge 21, 3) := by decide +kernel
theorem dX9_partOnce_146 : decode cX9_partOnce 146 = .ok (.aload_n 0, 1) := by decide +kernel
theorem dX9_partOnce_147 : decode cX9_partOnce 147 = .ok (.getfield 97, 3) := by decide +kernel
theorem dX9_partOnce_150 : decode cX9_partOnce 150 = .ok (.iload_n 2, 1) := by decide +kernel
theorem dX9_partOnce_151 : decode cX9_partOnce 151 = .ok (.aload_n 0, 1) := by decide +kernel
theorem dX9_partOnce_152 : decode cX9_partOnce 152 = .ok (.getfield 100, 3) := by decide +kernel
theorem dX9_partOnce_155 : decode cX9_partOnce 155 = .ok (.iload_n 2, 1) := by decide +kernel
theorem dX9_partOnce_156 : decode cX9_partOnce 156 = .ok (.iaload, 1) := by decide +kernel
theorem dX9_partOnce_157 : decode cX9_partOnce 157 = .ok (.iastore, 1) := by decide +kernel
theorem dX9_partOnce_158 : decode cX9_partOnce 158 = .ok (.iinc 2 1, 3) := by decide +kernel
theorem dX9_partOnce_161 : decode cX9_partOnce 161 = .ok (.goto (-22), 3) := by decide +kernel
theorem dX9_partOnce_164 : decode cX9_partOnce 164 = .ok (.iload_n 1, 1) := by decide +kernel
theorem dX9_partOnce_165 : decode cX9_partOnce 165 = .ok (.ireturn, 1) := by decide +kernel
set_option maxRecDepth 20000 in
theorem ggX9_findKinds_X9_partOnce : GoodIn wsX9_findKinds wsX9_partOnce := goodIn_r _ [9, 10, 11, 12, 2, 13, 14, 15, 8, 16, 17, 18, 19, 20, 21, 22, 23, 24, 25, 26, 27, 28, 29, 30, 31, 32, 33, 34, 35, 36, 37, 38, 39, 40, 41, 42, 43, 44, 45, 46, 47, 48, 49, 50, 51, 52, 53, 54, 55, 56, 57, 58, 59, 60, 61, 62, 63, 64, 65] (by decide +kernel) (by decide +kernel)
set_option maxRecDepth 20000 in
theorem gX9_findKinds_X9_partOnce : GoodIn wsX9_findKinds (wsV RX9 319 RX9 yX9_partOnce wsX9_partOnce) := goodIn_app (goodIn_of _ (by decide +kernel)) ggX9_findKinds_X9_partOnce
theorem dX9_findKinds_0 : decode cX9_findKinds 0 = .ok (.aload_n 0, 1) := by decide +kernel
theorem dX9_findKinds_1 : decode cX9_findKinds 1 = .ok (.getfield 129, 3) := by decide +kernel
theorem dX9_findKinds_4 : decode cX9_findKinds 4 = .ok (.ifCond .eq 4, 3) := by decide +kernel
theorem dX9_findKinds_7 : decode cX9_findKinds 7 = .ok (.return_, 1) := by decide +kernel
theorem dX9_findKinds_8 : decode cX9_findKinds 8 = .ok (.aload_n 0, 1) := by decide +kernel
theorem dX9_findKinds_9 : decode cX9_findKinds 9 = .ok (.iconst 1, 1) := by decide +kernel
theorem dX9_findKinds_10 : decode cX9_findKinds 10 = .ok (.putfield 129, 3) := by decide +kernel
theorem dX9_findKinds_13 : decode cX9_findKinds 13 = .ok (.iconst 0, 1) := by decide +kernel
theorem dX9_findKinds_14 : decode cX9_findKinds 14 = .ok (.istore_n 1, 1) := by decide +kernel
theorem dX9_findKinds_15 : decode cX9_findKinds 15 = .ok (.iload_n 1, 1) := by decide +kernel
theorem dX9_findKinds_16 : decode cX9_findKinds 16 = .ok (.sipush 1024, 3) := by decide +kernel
theorem dX9_findKinds_19 : decode cX9_findKinds 19 = .ok (.if_icmp .ge 44, 3) := by decide +kernel
theorem dX9_findKinds_22 : decode cX9_findKinds 22 = .ok (.aload_n 0, 1) := by decide +kernel
theorem dX9_findKinds_23 : decode cX9_findKinds 23 = .ok (.getfield 97, 3) := by decide +kernel
theorem dX9_findKinds_26 : decode cX9_findKinds 26 = .ok (.iload_n 1, 1) := by decide +kernel
theorem dX9_findKinds_27 : decode cX9_findKinds 27 = .ok (.iload_n 1, 1) := by decide +kernel
theorem dX9_findKinds_28 : decode cX9_findKinds 28 = .ok (.bipush 32, 2) := by decide +kernel
theorem dX9_findKinds_30 : decode cX9_findKinds 30 = .ok (.idiv, 1) := by decide +kernel
theorem dX9_findKinds_31 : decode cX9_findKinds 31 = .ok (.iload_n 1, 1) := by decide +kernel
theorem dX9_findKinds_32 : decode cX9_findKinds 32 = .ok (.bipush 32, 2) := by decide +kernel
theorem dX9_findKinds_34 : decode cX9_findKinds 34 = .ok (.irem, 1) := by decide +kernel
theorem dX9_findKinds_35 : decode cX9_findKinds 35 = .ok (.if_icmp .ne 7, 3) := by decide +kernel
theorem dX9_findKinds_38 : decode cX9_findKinds 38 = .ok (.iconst 0, 1) := by decide +kernel
theorem dX9_findKinds_39 : decode cX9_findKinds 39 = .ok (.goto 17, 3) := by decide +kernel
theorem dX9_findKinds_42 : decode cX9_findKinds 42 = .ok (.aload_n 0, 1) := by decide +kernel
theorem dX9_findKinds_43 : decode cX9_findKinds 43 = .ok (.getfield 19, 3) := by decide +kernel
theorem dX9_findKinds_46 : decode cX9_findKinds 46 = .ok (.iload_n 1, 1) := by decide +kernel
theorem dX9_findKinds_47 : decode cX9_findKinds 47 = .ok (.baload, 1) := by decide +kernel
theorem dX9_findKinds_48 : decode cX9_findKinds 48 = .ok (.ifCond .eq 7, 3) := by decide +kernel
theorem dX9_findKinds_51 : decode cX9_findKinds 51 = .ok (.iconst 1, 1) := by decide +kernel
theorem dX9_findKinds_52 : decode cX9_findKinds 52 = .ok (.goto 4, 3) := by decide +kernel
theorem dX9_findKinds_55 : decode cX9_findKinds 55 = .ok (.iconst 2, 1) := by decide +kernel
theorem dX9_findKinds_56 : decode cX9_findKinds 56 = .ok (.iastore, 1) := by decide +kernel
theorem dX9_findKinds_57 : decode cX9_findKinds 57 = .ok (.iinc 1 1, 3) := by decide +kernel
theorem dX9_findKinds_60 : decode cX9_findKinds 60 = .ok (.goto (-45), 3) := by decide +kernel
theorem dX9_findKinds_63 : decode cX9_findKinds 63 = .ok (.aload_n 0, 1) := by decide +kernel
theorem dX9_findKinds_64 : decode cX9_findKinds 64 = .ok (.iconst (-1), 1) := by decide +kernel
theorem dX9_findKinds_65 : decode cX9_findKinds 65 = .ok (.putfield 316, 3) := by decide +kernel
theorem dX9_findKinds_68 : decode cX9_findKinds 68 = .ok (.iconst 0, 1) := by decide +kernel
theorem dX9_findKinds_69 : decode cX9_findKinds 69 = .ok (.istore_n 1, 1) := by decide +kernel
theorem dX9_findKinds_70 : decode cX9_findKinds 70 = .ok (.iload_n 1, 1) := by decide +kernel
theorem dX9_findKinds_71 : decode cX9_findKinds 71 = .ok (.aload_n 0, 1) := by decide +kernel
theorem dX9_findKinds_72 : decode cX9_findKinds 72 = .ok (.getfield 316, 3) := by decide +kernel
theorem dX9_findKinds_75 : decode cX9_findKinds 75 = .ok (.if_icmp .eq 16, 3) := by decide +kernel
theorem dX9_findKinds_78 : decode cX9_findKinds 78 = .ok (.aload_n 0, 1) := by decide +kernel
theorem dX9_findKinds_79 : decode cX9_findKinds 79 = .ok (.iload_n 1, 1) := by decide +kernel
theorem dX9_findKinds_80 : decode cX9_findKinds 80 = .ok (.putfield 316, 3) := by decide +kernel
theorem dX9_findKinds_83 : decode cX9_findKinds 83 = .ok (.aload_n 0, 1) := by decide +kernel
theorem dX9_findKinds_84 : decode cX9_findKinds 84 = .ok (.invokevirtual 319, 3) := by decide +kernel
theorem dX9_findKinds_87 : decode cX9_findKinds 87 = .ok (.istore_n 1, 1) := by decide +kernel
theorem dX9_findKinds_88 : decode cX9_findKinds 88 = .ok (.goto (-18), 3) := by decide +kernel
theorem dX9_findKinds_91 : decode cX9_findKinds 91 = .ok (.return_, 1) := by decide +kernel
set_option maxRecDepth 20000 in
theorem ggX9_kinds_X9_findKinds : GoodIn wsX9_kinds wsX9_findKinds := goodIn_r _ [6, 7, 8, 9, 1, 10, 11, 12, 5, 13, 14, 15, 16, 17, 18, 19, 20, 21, 22, 23, 24, 25, 26, 27, 28, 29, 30, 31, 32, 33, 34, 35, 36, 37, 38, 39, 40, 41, 42, 43, 44, 45, 46, 47, 48, 49, 50, 51, 52, 53, 54, 55, 56, 57, 58, 59, 60, 61, 62, 63, 64, 65, 66, 67, 68, 69] (by decide +kernel) (by decide +kernel)
set_option maxRecDepth 20000 in
theorem gX9_kinds_X9_findKinds : GoodIn wsX9_kinds (wsV RX9 322 RX9 yX9_findKinds wsX9_findKinds) := goodIn_app (goodIn_of _ (by decide +kernel)) ggX9_kinds_X9_findKinds
theorem dX9_kinds_0 : decode cX9_kinds 0 = .ok (.aload_n 0, 1) := by decide +kernel
theorem dX9_kinds_1 : decode cX9_kinds 1 = .ok (.invokevirtual 322, 3) := by decide +kernel
theorem dX9_kinds_4 : decode cX9_kinds 4 = .ok (.aload_n 0, 1) := by decide +kernel
theorem dX9_kinds_5 : decode cX9_kinds 5 = .ok (.getfield 316, 3) := by decide +kernel
theorem dX9_kinds_8 : decode cX9_kinds 8 = .ok (.ireturn, 1) := by decide +kernel
set_option maxRecDepth 20000 in
theorem ggX9_kind_X9_isPost : GoodIn wsX9_kind wsX9_isPost := goodIn_r _ [6, 7, 8, 9, 5, 10, 33, 34, 35, 36, 37, 38, 39, 40, 41, 42, 43, 44, 45, 46, 47, 48, 49, 50, 51, 52, 53, 54, 55, 56, 57, 58, 59, 60, 61, 62, 63, 64, 65, 66, 67, 68, 69, 70, 71, 72, 73, 74, 75, 76] (by decide +kernel) (by decide +kernel)
set_option maxRecDepth 20000 in
theorem gX9_kind_X9_isPost : GoodIn wsX9_kind (wsV RX9 138 RX9 yX9_isPost wsX9_isPost) := goodIn_app (goodIn_of _ (by decide +kernel)) ggX9_kind_X9_isPost
set_option maxRecDepth 20000 in
theorem ggX9_kind_X9_findKinds : GoodIn wsX9_kind wsX9_findKinds := goodIn_r _ [14, 15, 1, 16, 17, 18, 19, 20, 5, 21, 7, 22, 23, 24, 25, 26, 27, 28, 29, 30, 31, 32, 33, 34, 35, 36, 37, 38, 39, 40, 41, 42, 43, 44, 45, 46, 47, 48, 49, 50, 51, 52, 53, 54, 55, 56, 57, 58, 59, 60, 61, 62, 63, 64, 65, 66, 67, 68, 69, 70, 71, 72, 73, 74, 75, 76] (by decide +kernel) (by decide +kernel)
set_option maxRecDepth 20000 in
theorem gX9_kind_X9_findKinds : GoodIn wsX9_kind (wsV RX9 322 RX9 yX9_findKinds wsX9_findKinds) := goodIn_app (goodIn_of _ (by decide +kernel)) ggX9_kind_X9_findKinds
theorem dX9_kind_0 : decode cX9_kind 0 = .ok (.aload_n 0, 1) := by decide +kernel
theorem dX9_kind_1 : decode cX9_kind 1 = .ok (.iload_n 1, 1) := by decide +kernel
theorem dX9_kind_2 : decode cX9_kind 2 = .ok (.invokevirtual 138, 3) := by decide +kernel
theorem dX9_kind_5 : decode cX9_kind 5 = .ok (.ifCond .eq 11, 3) := by decide +kernel
theorem dX9_kind_8 : decode cX9_kind 8 = .ok (.aload_n 0, 1) := by decide +kernel
theorem dX9_kind_9 : decode cX9_kind 9 = .ok (.iload_n 2, 1) := by decide +kernel
theorem dX9_kind_10 : decode cX9_kind 10 = .ok (.invokevirtual 138, 3) := by decide +kernel
theorem dX9_kind_13 : decode cX9_kind 13 = .ok (.ifCond .ne 5, 3) := by decide +kernel
theorem dX9_kind_16 : decode cX9_kind 16 = .ok (.iconst (-1), 1) := by decide +kernel
theorem dX9_kind_17 : decode cX9_kind 17 = .ok (.ireturn, 1) := by decide +kernel
theorem dX9_kind_18 : decode cX9_kind 18 = .ok (.aload_n 0, 1) := by decide +kernel
theorem dX9_kind_19 : decode cX9_kind 19 = .ok (.invokevirtual 322, 3) := by decide +kernel
theorem dX9_kind_22 : decode cX9_kind 22 = .ok (.aload_n 0, 1) := by decide +kernel
theorem dX9_kind_23 : decode cX9_kind 23 = .ok (.getfield 97, 3) := by decide +kernel
theorem dX9_kind_26 : decode cX9_kind 26 = .ok (.bipush 32, 2) := by decide +kernel
theorem dX9_kind_28 : decode cX9_kind 28 = .ok (.iload_n 1, 1) := by decide +kernel
theorem dX9_kind_29 : decode cX9_kind 29 = .ok (.imul, 1) := by decide +kernel
theorem dX9_kind_30 : decode cX9_kind 30 = .ok (.iload_n 2, 1) := by decide +kernel
theorem dX9_kind_31 : decode cX9_kind 31 = .ok (.iadd, 1) := by decide +kernel
theorem dX9_kind_32 : decode cX9_kind 32 = .ok (.iaload, 1) := by decide +kernel
theorem dX9_kind_33 : decode cX9_kind 33 = .ok (.ireturn, 1) := by decide +kernel
theorem dJ6_bitCount_0f7a4_0 : decode cJ6_bitCount_0f7a4 0 = .ok (.iload_n 0, 1) := by decide +kernel
theorem dJ6_bitCount_0f7a4_1 : decode cJ6_bitCount_0f7a4 1 = .ok (.iload_n 0, 1) := by decide +kernel
theorem dJ6_bitCount_0f7a4_2 : decode cJ6_bitCount_0f7a4 2 = .ok (.iconst 1, 1) := by decide +kernel
theorem dJ6_bitCount_0f7a4_3 : decode cJ6_bitCount_0f7a4 3 = .ok (.iushr, 1) := by decide +kernel
theorem dJ6_bitCount_0f7a4_4 : decode cJ6_bitCount_0f7a4 4 = .ok (.ldc_w 265, 3) := by decide +kernel
theorem dJ6_bitCount_0f7a4_7 : decode cJ6_bitCount_0f7a4 7 = .ok (.iand, 1) := by decide +kernel
theorem dJ6_bitCount_0f7a4_8 : decode cJ6_bitCount_0f7a4 8 = .ok (.isub, 1) := by decide +kernel
theorem dJ6_bitCount_0f7a4_9 : decode cJ6_bitCount_0f7a4 9 = .ok (.istore_n 0, 1) := by decide +kernel
theorem dJ6_bitCount_0f7a4_10 : decode cJ6_bitCount_0f7a4 10 = .ok (.iload_n 0, 1) := by decide +kernel
theorem dJ6_bitCount_0f7a4_11 : decode cJ6_bitCount_0f7a4 11 = .ok (.ldc_w 266, 3) := by decide +kernel
theorem dJ6_bitCount_0f7a4_14 : decode cJ6_bitCount_0f7a4 14 = .ok (.iand, 1) := by decide +kernel
theorem dJ6_bitCount_0f7a4_15 : decode cJ6_bitCount_0f7a4 15 = .ok (.iload_n 0, 1) := by decide +kernel
theorem dJ6_bitCount_0f7a4_16 : decode cJ6_bitCount_0f7a4 16 = .ok (.iconst 2, 1) := by decide +kernel
theorem dJ6_bitCount_0f7a4_17 : decode cJ6_bitCount_0f7a4 17 = .ok (.iushr, 1) := by decide +kernel
theorem dJ6_bitCount_0f7a4_18 : decode cJ6_bitCount_0f7a4 18 = .ok (.ldc_w 266, 3) := by decide +kernel
theorem dJ6_bitCount_0f7a4_21 : decode cJ6_bitCount_0f7a4 21 = .ok (.iand, 1) := by decide +kernel
theorem dJ6_bitCount_0f7a4_22 : decode cJ6_bitCount_0f7a4 22 = .ok (.iadd, 1) := by decide +kernel
theorem dJ6_bitCount_0f7a4_23 : decode cJ6_bitCount_0f7a4 23 = .ok (.istore_n 0, 1) := by decide +kernel
theorem dJ6_bitCount_0f7a4_24 : decode cJ6_bitCount_0f7a4 24 = .ok (.iload_n 0, 1) := by decide +kernel
theorem dJ6_bitCount_0f7a4_25 : decode cJ6_bitCount_0f7a4 25 = .ok (.iload_n 0, 1) := by decide +kernel
theorem dJ6_bitCount_0f7a4_26 : decode cJ6_bitCount_0f7a4 26 = .ok (.iconst 4, 1) := by decide +kernel
theorem dJ6_bitCount_0f7a4_27 : decode cJ6_bitCount_0f7a4 27 = .ok (.iushr, 1) := by decide +kernel
theorem dJ6_bitCount_0f7a4_28 : decode cJ6_bitCount_0f7a4 28 = .ok (.iadd, 1) := by decide +kernel
theorem dJ6_bitCount_0f7a4_29 : decode cJ6_bitCount_0f7a4 29 = .ok (.ldc_w 267, 3) := by decide +kernel
theorem dJ6_bitCount_0f7a4_32 : decode cJ6_bitCount_0f7a4 32 = .ok (.iand, 1) := by decide +kernel
theorem dJ6_bitCount_0f7a4_33 : decode cJ6_bitCount_0f7a4 33 = .ok (.istore_n 0, 1) := by decide +kernel
theorem dJ6_bitCount_0f7a4_34 : decode cJ6_bitCount_0f7a4 34 = .ok (.iload_n 0, 1) := by decide +kernel
theorem dJ6_bitCount_0f7a4_35 : decode cJ6_bitCount_0f7a4 35 = .ok (.iload_n 0, 1) := by decide +kernel
theorem dJ6_bitCount_0f7a4_36 : decode cJ6_bitCount_0f7a4 36 = .ok (.bipush 8, 2) := by decide +kernel
theorem dJ6_bitCount_0f7a4_38 : decode cJ6_bitCount_0f7a4 38 = .ok (.iushr, 1) := by decide +kernel
theorem dJ6_bitCount_0f7a4_39 : decode cJ6_bitCount_0f7a4 39 = .ok (.iadd, 1) := by decide +kernel
theorem dJ6_bitCount_0f7a4_40 : decode cJ6_bitCount_0f7a4 40 = .ok (.istore_n 0, 1) := by decide +kernel
theorem dJ6_bitCount_0f7a4_41 : decode cJ6_bitCount_0f7a4 41 = .ok (.iload_n 0, 1) := by decide +kernel
theorem dJ6_bitCount_0f7a4_42 : decode cJ6_bitCount_0f7a4 42 = .ok (.iload_n 0, 1) := by decide +kernel
theorem dJ6_bitCount_0f7a4_43 : decode cJ6_bitCount_0f7a4 43 = .ok (.bipush 16, 2) := by decide +kernel
theorem dJ6_bitCount_0f7a4_45 : decode cJ6_bitCount_0f7a4 45 = .ok (.iushr, 1) := by decide +kernel
theorem dJ6_bitCount_0f7a4_46 : decode cJ6_bitCount_0f7a4 46 = .ok (.iadd, 1) := by decide +kernel
theorem dJ6_bitCount_0f7a4_47 : decode cJ6_bitCount_0f7a4 47 = .ok (.istore_n 0, 1) := by decide +kernel
theorem dJ6_bitCount_0f7a4_48 : decode cJ6_bitCount_0f7a4 48 = .ok (.iload_n 0, 1) := by decide +kernel
theorem dJ6_bitCount_0f7a4_49 : decode cJ6_bitCount_0f7a4 49 = .ok (.bipush 63, 2) := by decide +kernel
theorem dJ6_bitCount_0f7a4_51 : decode cJ6_bitCount_0f7a4 51 = .ok (.iand, 1) := by decide +kernel
theorem dJ6_bitCount_0f7a4_52 : decode cJ6_bitCount_0f7a4 52 = .ok (.ireturn, 1) := by decide +kernel
theorem dJ13_bitCount_95d88_0 : decode cJ13_bitCount_95d88 0 = .ok (.lload_n 0, 1) := by decide +kernel
theorem dJ13_bitCount_95d88_1 : decode cJ13_bitCount_95d88 1 = .ok (.lload_n 0, 1) := by decide +kernel
theorem dJ13_bitCount_95d88_2 : decode cJ13_bitCount_95d88 2 = .ok (.iconst 1, 1) := by decide +kernel
theorem dJ13_bitCount_95d88_3 : decode cJ13_bitCount_95d88 3 = .ok (.lushr, 1) := by decide +kernel
theorem dJ13_bitCount_95d88_4 : decode cJ13_bitCount_95d88 4 = .ok (.ldc2_w 314, 3) := by decide +kernel
theorem dJ13_bitCount_95d88_7 : decode cJ13_bitCount_95d88 7 = .ok (.land, 1) := by decide +kernel
theorem dJ13_bitCount_95d88_8 : decode cJ13_bitCount_95d88 8 = .ok (.lsub, 1) := by decide +kernel
theorem dJ13_bitCount_95d88_9 : decode cJ13_bitCount_95d88 9 = .ok (.lstore_n 0, 1) := by decide +kernel
theorem dJ13_bitCount_95d88_10 : decode cJ13_bitCount_95d88 10 = .ok (.lload_n 0, 1) := by decide +kernel
theorem dJ13_bitCount_95d88_11 : decode cJ13_bitCount_95d88 11 = .ok (.ldc2_w 316, 3) := by decide +kernel
theorem dJ13_bitCount_95d88_14 : decode cJ13_bitCount_95d88 14 = .ok (.land, 1) := by decide +kernel
theorem dJ13_bitCount_95d88_15 : decode cJ13_bitCount_95d88 15 = .ok (.lload_n 0, 1) := by decide +kernel
theorem dJ13_bitCount_95d88_16 : decode cJ13_bitCount_95d88 16 = .ok (.iconst 2, 1) := by decide +kernel
theorem dJ13_bitCount_95d88_17 : decode cJ13_bitCount_95d88 17 = .ok (.lushr, 1) := by decide +kernel
theorem dJ13_bitCount_95d88_18 : decode cJ13_bitCount_95d88 18 = .ok (.ldc2_w 316, 3) := by decide +kernel
theorem dJ13_bitCount_95d88_21 : decode cJ13_bitCount_95d88 21 = .ok (.land, 1) := by decide +kernel
theorem dJ13_bitCount_95d88_22 : decode cJ13_bitCount_95d88 22 = .ok (.ladd, 1) := by decide +kernel
theorem dJ13_bitCount_95d88_23 : decode cJ13_bitCount_95d88 23 = .ok (.lstore_n 0, 1) := by decide +kernel
theorem dJ13_bitCount_95d88_24 : decode cJ13_bitCount_95d88 24 = .ok (.lload_n 0, 1) := by decide +kernel
theorem dJ13_bitCount_95d88_25 : decode cJ13_bitCount_95d88 25 = .ok (.lload_n 0, 1) := by decide +kernel
theorem dJ13_bitCount_95d88_26 : decode cJ13_bitCount_95d88 26 = .ok (.iconst 4, 1) := by decide +kernel
theorem dJ13_bitCount_95d88_27 : decode cJ13_bitCount_95d88 27 = .ok (.lushr, 1) := by decide +kernel
theorem dJ13_bitCount_95d88_28 : decode cJ13_bitCount_95d88 28 = .ok (.ladd, 1) := by decide +kernel
theorem dJ13_bitCount_95d88_29 : decode cJ13_bitCount_95d88 29 = .ok (.ldc2_w 318, 3) := by decide +kernel
theorem dJ13_bitCount_95d88_32 : decode cJ13_bitCount_95d88 32 = .ok (.land, 1) := by decide +kernel
theorem dJ13_bitCount_95d88_33 : decode cJ13_bitCount_95d88 33 = .ok (.lstore_n 0, 1) := by decide +kernel
theorem dJ13_bitCount_95d88_34 : decode cJ13_bitCount_95d88 34 = .ok (.lload_n 0, 1) := by decide +kernel
theorem dJ13_bitCount_95d88_35 : decode cJ13_bitCount_95d88 35 = .ok (.lload_n 0, 1) := by decide +kernel
theorem dJ13_bitCount_95d88_36 : decode cJ13_bitCount_95d88 36 = .ok (.bipush 8, 2) := by decide +kernel
theorem dJ13_bitCount_95d88_38 : decode cJ13_bitCount_95d88 38 = .ok (.lushr, 1) := by decide +kernel
theorem dJ13_bitCount_95d88_39 : decode cJ13_bitCount_95d88 39 = .ok (.ladd, 1) := by decide +kernel
theorem dJ13_bitCount_95d88_40 : decode cJ13_bitCount_95d88 40 = .ok (.lstore_n 0, 1) := by decide +kernel
theorem dJ13_bitCount_95d88_41 : decode cJ13_bitCount_95d88 41 = .ok (.lload_n 0, 1) := by decide +kernel
theorem dJ13_bitCount_95d88_42 : decode cJ13_bitCount_95d88 42 = .ok (.lload_n 0, 1) := by decide +kernel
theorem dJ13_bitCount_95d88_43 : decode cJ13_bitCount_95d88 43 = .ok (.bipush 16, 2) := by decide +kernel
theorem dJ13_bitCount_95d88_45 : decode cJ13_bitCount_95d88 45 = .ok (.lushr, 1) := by decide +kernel
theorem dJ13_bitCount_95d88_46 : decode cJ13_bitCount_95d88 46 = .ok (.ladd, 1) := by decide +kernel
theorem dJ13_bitCount_95d88_47 : decode cJ13_bitCount_95d88 47 = .ok (.lstore_n 0, 1) := by decide +kernel
theorem dJ13_bitCount_95d88_48 : decode cJ13_bitCount_95d88 48 = .ok (.lload_n 0, 1) := by decide +kernel
theorem dJ13_bitCount_95d88_49 : decode cJ13_bitCount_95d88 49 = .ok (.lload_n 0, 1) := by decide +kernel
theorem dJ13_bitCount_95d88_50 : decode cJ13_bitCount_95d88 50 = .ok (.bipush 32, 2) := by decide +kernel
theorem dJ13_bitCount_95d88_52 : decode cJ13_bitCount_95d88 52 = .ok (.lushr, 1) := by decide +kernel
theorem dJ13_bitCount_95d88_53 : decode cJ13_bitCount_95d88 53 = .ok (.ladd, 1) := by decide +kernel
theorem dJ13_bitCount_95d88_54 : decode cJ13_bitCount_95d88 54 = .ok (.lstore_n 0, 1) := by decide +kernel
theorem dJ13_bitCount_95d88_55 : decode cJ13_bitCount_95d88 55 = .ok (.lload_n 0, 1) := by decide +kernel
theorem dJ13_bitCount_95d88_56 : decode cJ13_bitCount_95d88 56 = .ok (.l2i, 1) := by decide +kernel
theorem dJ13_bitCount_95d88_57 : decode cJ13_bitCount_95d88 57 = .ok (.bipush 127, 2) := by decide +kernel
theorem dJ13_bitCount_95d88_59 : decode cJ13_bitCount_95d88 59 = .ok (.iand, 1) := by decide +kernel
theorem dJ13_bitCount_95d88_60 : decode cJ13_bitCount_95d88 60 = .ok (.ireturn, 1) := by decide +kernel
theorem dJ9_max_7cf53_0 : decode cJ9_max_7cf53 0 = .ok (.iload_n 0, 1) := by decide +kernel
theorem dJ9_max_7cf53_1 : decode cJ9_max_7cf53 1 = .ok (.iload_n 1, 1) := by decide +kernel
theorem dJ9_max_7cf53_2 : decode cJ9_max_7cf53 2 = .ok (.if_icmp .lt 7, 3) := by decide +kernel
theorem dJ9_max_7cf53_5 : decode cJ9_max_7cf53 5 = .ok (.iload_n 0, 1) := by decide +kernel
theorem dJ9_max_7cf53_6 : decode cJ9_max_7cf53 6 = .ok (.goto 4, 3) := by decide +kernel
theorem dJ9_max_7cf53_9 : decode cJ9_max_7cf53 9 = .ok (.iload_n 1, 1) := by decide +kernel
theorem dJ9_max_7cf53_10 : decode cJ9_max_7cf53 10 = .ok (.ireturn, 1) := by decide +kernel
theorem dJ7_fill_d0a16_0 : decode cJ7_fill_d0a16 0 = .ok (.iconst 0, 1) := by decide +kernel
theorem dJ7_fill_d0a16_1 : decode cJ7_fill_d0a16 1 = .ok (.istore_n 3, 1) := by decide +kernel
theorem dJ7_fill_d0a16_2 : decode cJ7_fill_d0a16 2 = .ok (.aload_n 0, 1) := by decide +kernel
theorem dJ7_fill_d0a16_3 : decode cJ7_fill_d0a16 3 = .ok (.arraylength, 1) := by decide +kernel
theorem dJ7_fill_d0a16_4 : decode cJ7_fill_d0a16 4 = .ok (.istore 4, 2) := by decide +kernel
theorem dJ7_fill_d0a16_6 : decode cJ7_fill_d0a16 6 = .ok (.iload_n 3, 1) := by decide +kernel
theorem dJ7_fill_d0a16_7 : decode cJ7_fill_d0a16 7 = .ok (.iload 4, 2) := by decide +kernel
theorem dJ7_fill_d0a16_9 : decode cJ7_fill_d0a16 9 = .ok (.if_icmp .ge 13, 3) := by decide +kernel
theorem dJ7_fill_d0a16_12 : decode cJ7_fill_d0a16 12 = .ok (.aload_n 0, 1) := by decide +kernel
theorem dJ7_fill_d0a16_13 : decode cJ7_fill_d0a16 13 = .ok (.iload_n 3, 1) := by decide +kernel
theorem dJ7_fill_d0a16_14 : decode cJ7_fill_d0a16 14 = .ok (.lload_n 1, 1) := by decide +kernel
theorem dJ7_fill_d0a16_15 : decode cJ7_fill_d0a16 15 = .ok (.lastore, 1) := by decide +kernel
theorem dJ7_fill_d0a16_16 : decode cJ7_fill_d0a16 16 = .ok (.iinc 3 1, 3) := by decide +kernel
theorem dJ7_fill_d0a16_19 : decode cJ7_fill_d0a16 19 = .ok (.goto (-13), 3) := by decide +kernel
theorem dJ7_fill_d0a16_22 : decode cJ7_fill_d0a16 22 = .ok (.return_, 1) := by decide +kernel
theorem dJ7_fill_53178_0 : decode cJ7_fill_53178 0 = .ok (.iconst 0, 1) := by decide +kernel
theorem dJ7_fill_53178_1 : decode cJ7_fill_53178 1 = .ok (.istore_n 2, 1) := by decide +kernel
theorem dJ7_fill_53178_2 : decode cJ7_fill_53178 2 = .ok (.aload_n 0, 1) := by decide +kernel
theorem dJ7_fill_53178_3 : decode cJ7_fill_53178 3 = .ok (.arraylength, 1) := by decide +kernel
theorem dJ7_fill_53178_4 : decode cJ7_fill_53178 4 = .ok (.istore_n 3, 1) := by decide +kernel
theorem dJ7_fill_53178_5 : decode cJ7_fill_53178 5 = .ok (.iload_n 2, 1) := by decide +kernel
theorem dJ7_fill_53178_6 : decode cJ7_fill_53178 6 = .ok (.iload_n 3, 1) := by decide +kernel
theorem dJ7_fill_53178_7 : decode cJ7_fill_53178 7 = .ok (.if_icmp .ge 13, 3) := by decide +kernel
theorem dJ7_fill_53178_10 : decode cJ7_fill_53178 10 = .ok (.aload_n 0, 1) := by decide +kernel
theorem dJ7_fill_53178_11 : decode cJ7_fill_53178 11 = .ok (.iload_n 2, 1) := by decide +kernel
theorem dJ7_fill_53178_12 : decode cJ7_fill_53178 12 = .ok (.iload_n 1, 1) := by decide +kernel
theorem dJ7_fill_53178_13 : decode cJ7_fill_53178 13 = .ok (.iastore, 1) := by decide +kernel
theorem dJ7_fill_53178_14 : decode cJ7_fill_53178 14 = .ok (.iinc 2 1, 3) := by decide +kernel
theorem dJ7_fill_53178_17 : decode cJ7_fill_53178 17 = .ok (.goto (-12), 3) := by decide +kernel
theorem dJ7_fill_53178_20 : decode cJ7_fill_53178 20 = .ok (.return_, 1) := by decide +kernel
abbrev vwCl : List vw_C := [(RX0, TX0, 7), (RX1, TX1, 1), (RX2, TX2, 2), (RX3, TX3, 11), (RX4, TX4, 6), (RX5, TX5, 4), (RX6, TX6, 13), (RX7, TX7, 7), (RX8, TX8, 13), (RX9, TX9, 44)]
