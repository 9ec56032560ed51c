theorem dX8_many_88 : decode cX8_many 88 = .ok (.getfield 158, 3) := by decide +kernel
theorem dX8_many_91 : decode cX8_many 91 = .ok (.invokestatic 161, 3) := by decide +kernel
theorem dX8_many_94 : decode cX8_many 94 = .ok (.ireturn, 1) := by decide +kernel
theorem dX8_many_95 : decode cX8_many 95 = .ok (.aload_n 0, 1) := by decide +kernel
theorem dX8_many_96 : decode cX8_many 96 = .ok (.getfield 46, 3) := by decide +kernel
theorem dX8_many_99 : decode cX8_many 99 = .ok (.getfield 165, 3) := by decide +kernel
theorem dX8_many_102 : decode cX8_many 102 = .ok (.ireturn, 1) := by decide +kernel
theorem dX8_many_103 : decode cX8_many 103 = .ok (.aload_n 0, 1) := by decide +kernel
theorem dX8_many_104 : decode cX8_many 104 = .ok (.getfield 46, 3) := by decide +kernel
theorem dX8_many_107 : decode cX8_many 107 = .ok (.aload_n 0, 1) := by decide +kernel
theorem dX8_many_108 : decode cX8_many 108 = .ok (.getfield 19, 3) := by decide +kernel
theorem dX8_many_111 : decode cX8_many 111 = .ok (.invokevirtual 168, 3) := by decide +kernel
theorem dX8_many_114 : decode cX8_many 114 = .ok (.ireturn, 1) := by decide +kernel
theorem dX8_many_115 : decode cX8_many 115 = .ok (.aload_n 0, 1) := by decide +kernel
theorem dX8_many_116 : decode cX8_many 116 = .ok (.getfield 19, 3) := by decide +kernel
theorem dX8_many_119 : decode cX8_many 119 = .ok (.invokevirtual 172, 3) := by decide +kernel
theorem dX8_many_122 : decode cX8_many 122 = .ok (.invokestatic 161, 3) := by decide +kernel
theorem dX8_many_125 : decode cX8_many 125 = .ok (.ireturn, 1) := by decide +kernel
theorem dX8_many_126 : decode cX8_many 126 = .ok (.aload_n 0, 1) := by decide +kernel
theorem dX8_many_127 : decode cX8_many 127 = .ok (.getfield 46, 3) := by decide +kernel
theorem dX8_many_130 : decode cX8_many 130 = .ok (.aload_n 0, 1) := by decide +kernel
theorem dX8_many_131 : decode cX8_many 131 = .ok (.getfield 19, 3) := by decide +kernel
theorem dX8_many_134 : decode cX8_many 134 = .ok (.invokevirtual 176, 3) := by decide +kernel
theorem dX8_many_137 : decode cX8_many 137 = .ok (.invokestatic 161, 3) := by decide +kernel
theorem dX8_many_140 : decode cX8_many 140 = .ok (.ireturn, 1) := by decide +kernel
theorem dX8_many_141 : decode cX8_many 141 = .ok (.aload_n 0, 1) := by decide +kernel
theorem dX8_many_142 : decode cX8_many 142 = .ok (.getfield 46, 3) := by decide +kernel
theorem dX8_many_145 : decode cX8_many 145 = .ok (.invokevirtual 180, 3) := by decide +kernel
theorem dX8_many_148 : decode cX8_many 148 = .ok (.invokestatic 161, 3) := by decide +kernel
theorem dX8_many_151 : decode cX8_many 151 = .ok (.ireturn, 1) := by decide +kernel
theorem dX8_many_152 : decode cX8_many 152 = .ok (.aload_n 0, 1) := by decide +kernel
theorem dX8_many_153 : decode cX8_many 153 = .ok (.invokevirtual 183, 3) := by decide +kernel
theorem dX8_many_156 : decode cX8_many 156 = .ok (.invokestatic 161, 3) := by decide +kernel
theorem dX8_many_159 : decode cX8_many 159 = .ok (.ireturn, 1) := by decide +kernel
theorem dX8_many_160 : decode cX8_many 160 = .ok (.iconst (-1), 1) := by decide +kernel
theorem dX8_many_161 : decode cX8_many 161 = .ok (.ireturn, 1) := by decide +kernel
set_option maxRecDepth 20000 in
theorem ggX8_clash_X8_measure : GoodIn wsX8_clash wsX8_measure := goodIn_r _ [10, 1, 11, 12, 13, 14, 15, 16, 17, 18, 19, 20, 21, 22, 23, 24, 25, 26, 27, 28, 29, 30, 31, 32, 33, 34, 35, 36, 37, 38, 39, 40, 41, 42, 9, 43, 44, 45, 46, 47, 48, 49, 50, 51, 52, 94, 95, 96, 97, 98, 99, 100, 101, 102, 103, 104, 105, 106, 107, 108, 109, 110, 111, 112, 113, 121, 122] (by decide +kernel) (by decide +kernel)
set_option maxRecDepth 20000 in
theorem gX8_clash_X8_measure : GoodIn wsX8_clash (wsV RX8 145 RX8 yX8_measure wsX8_measure) := goodIn_app (goodIn_of _ (by decide +kernel)) ggX8_clash_X8_measure
set_option maxRecDepth 20000 in
theorem ggX8_clash_X8_isLike : GoodIn wsX8_clash wsX8_isLike := goodIn_r _ [56, 3, 57, 12, 1, 58, 6, 7, 8, 9, 10, 11, 13, 14, 15, 16, 17, 18, 19, 20, 21, 22, 23, 24, 25, 26, 27, 28, 29, 30, 31, 32, 33, 34, 35, 36, 37, 38, 39, 40, 41, 42, 43, 44, 45, 46, 47, 48, 49, 50, 51, 52, 59, 60, 61, 62, 63, 64, 65, 66, 67, 68, 69, 70, 71, 72, 73, 74, 75, 76, 77, 78, 79, 80, 81, 82, 83, 84, 85, 86, 87, 88, 89, 90, 91, 92, 93, 94, 95, 96, 97, 98, 99, 100, 101, 102, 103, 104, 105, 106, 114, 115, 116, 117, 118, 119, 120, 107, 108, 109, 110, 111, 112, 113, 121, 122] (by decide +kernel) (by decide +kernel)
set_option maxRecDepth 20000 in
theorem gX8_clash_X8_isLike : GoodIn wsX8_clash (wsV RX8 183 RX8 yX8_isLike wsX8_isLike) := goodIn_app (goodIn_of _ (by decide +kernel)) ggX8_clash_X8_isLike
theorem dX8_clash_0 : decode cX8_clash 0 = .ok (.iload_n 1, 1) := by decide +kernel
theorem dX8_clash_1 : decode cX8_clash 1 = .ok (.ifCond .eq 10, 3) := by decide +kernel
theorem dX8_clash_4 : decode cX8_clash 4 = .ok (.iload_n 1, 1) := by decide +kernel
theorem dX8_clash_5 : decode cX8_clash 5 = .ok (.iconst 1, 1) := by decide +kernel
theorem dX8_clash_6 : decode cX8_clash 6 = .ok (.if_icmp .eq 5, 3) := by decide +kernel
theorem dX8_clash_9 : decode cX8_clash 9 = .ok (.iconst (-1), 1) := by decide +kernel
theorem dX8_clash_10 : decode cX8_clash 10 = .ok (.ireturn, 1) := by decide +kernel
theorem dX8_clash_11 : decode cX8_clash 11 = .ok (.aload_n 0, 1) := by decide +kernel
theorem dX8_clash_12 : decode cX8_clash 12 = .ok (.invokevirtual 145, 3) := by decide +kernel
theorem dX8_clash_15 : decode cX8_clash 15 = .ok (.aload_n 0, 1) := by decide +kernel
theorem dX8_clash_16 : decode cX8_clash 16 = .ok (.getfield 46, 3) := by decide +kernel
theorem dX8_clash_19 : decode cX8_clash 19 = .ok (.getfield 158, 3) := by decide +kernel
theorem dX8_clash_22 : decode cX8_clash 22 = .ok (.ifCond .ne 6, 3) := by decide +kernel
theorem dX8_clash_25 : decode cX8_clash 25 = .ok (.bipush (-5), 2) := by decide +kernel
theorem dX8_clash_27 : decode cX8_clash 27 = .ok (.ireturn, 1) := by decide +kernel
theorem dX8_clash_28 : decode cX8_clash 28 = .ok (.aload_n 0, 1) := by decide +kernel
theorem dX8_clash_29 : decode cX8_clash 29 = .ok (.invokevirtual 183, 3) := by decide +kernel
theorem dX8_clash_32 : decode cX8_clash 32 = .ok (.ifCond .eq 6, 3) := by decide +kernel
theorem dX8_clash_35 : decode cX8_clash 35 = .ok (.bipush (-8), 2) := by decide +kernel
theorem dX8_clash_37 : decode cX8_clash 37 = .ok (.ireturn, 1) := by decide +kernel
theorem dX8_clash_38 : decode cX8_clash 38 = .ok (.iload_n 1, 1) := by decide +kernel
theorem dX8_clash_39 : decode cX8_clash 39 = .ok (.ifCond .ne 13, 3) := by decide +kernel
theorem dX8_clash_42 : decode cX8_clash 42 = .ok (.aload_n 0, 1) := by decide +kernel
theorem dX8_clash_43 : decode cX8_clash 43 = .ok (.getfield 53, 3) := by decide +kernel
theorem dX8_clash_46 : decode cX8_clash 46 = .ok (.getfield 186, 3) := by decide +kernel
theorem dX8_clash_49 : decode cX8_clash 49 = .ok (.goto 10, 3) := by decide +kernel
theorem dX8_clash_52 : decode cX8_clash 52 = .ok (.aload_n 0, 1) := by decide +kernel
theorem dX8_clash_53 : decode cX8_clash 53 = .ok (.getfield 53, 3) := by decide +kernel
theorem dX8_clash_56 : decode cX8_clash 56 = .ok (.getfield 189, 3) := by decide +kernel
theorem dX8_clash_59 : decode cX8_clash 59 = .ok (.ireturn, 1) := by decide +kernel
set_option maxRecDepth 20000 in
theorem ggX8_table_X8_isLike : GoodIn wsX8_table wsX8_isLike := goodIn_r _ [11, 3, 12, 13, 1, 14, 15, 16, 17, 10, 18, 19, 20, 21, 22, 23, 24, 25, 26, 27, 28, 29, 30, 31, 32, 33, 34, 35, 36, 37, 38, 39, 40, 41, 42, 43, 44, 45, 46, 47, 48, 49, 50, 51, 52, 53, 54, 55, 56, 57, 58, 59, 60, 61, 62, 63, 64, 65, 66, 67, 68, 69, 70, 71, 72, 73, 74, 75, 76, 77, 78, 79, 80, 81, 82, 83, 84, 85, 86, 87, 88, 89, 90, 91, 92, 93, 94, 97, 98, 99, 100, 101, 102, 103, 104, 105, 106, 107, 108, 109, 117, 118, 119, 120, 121, 122, 123, 110, 111, 112, 113, 114, 115, 116, 124, 125] (by decide +kernel) (by decide +kernel)
set_option maxRecDepth 20000 in
theorem gX8_table_X8_isLike : GoodIn wsX8_table (wsV RX8 183 RX8 yX8_isLike wsX8_isLike) := goodIn_app (goodIn_of _ (by decide +kernel)) ggX8_table_X8_isLike
set_option maxRecDepth 20000 in
theorem ggX8_table_X7_postsAt : GoodIn wsX8_table wsX7_postsAt := goodIn_r _ [87, 28, 110, 111, 112, 113, 114, 115, 116] (by decide +kernel) (by decide +kernel)
set_option maxRecDepth 20000 in
theorem gX8_table_X7_postsAt : GoodIn wsX8_table (wsV RX8 201 RX7 yX7_postsAt wsX7_postsAt) := goodIn_app (goodIn_of _ (by decide +kernel)) ggX8_table_X7_postsAt
set_option maxRecDepth 20000 in
theorem ggX8_table_J6_bitCount_0f7a4 : GoodIn wsX8_table wsJ6_bitCount_0f7a4 := goodIn_r _ [91, 92, 93, 94] (by decide +kernel) (by decide +kernel)
set_option maxRecDepth 20000 in
theorem gX8_table_J6_bitCount_0f7a4 : GoodIn wsX8_table (va_wsS RX8 204 yJ6_bitCount_0f7a4 wsJ6_bitCount_0f7a4) := goodIn_app (goodIn_of _ (by decide +kernel)) ggX8_table_J6_bitCount_0f7a4
theorem dX8_table_0 : decode cX8_table 0 = .ok (.iload_n 2, 1) := by decide +kernel
theorem dX8_table_1 : decode cX8_table 1 = .ok (.ifCond .lt 8, 3) := by decide +kernel
theorem dX8_table_4 : decode cX8_table 4 = .ok (.iload_n 2, 1) := by decide +kernel
theorem dX8_table_5 : decode cX8_table 5 = .ok (.iconst 3, 1) := by decide +kernel
theorem dX8_table_6 : decode cX8_table 6 = .ok (.if_icmp .le 5, 3) := by decide +kernel
theorem dX8_table_9 : decode cX8_table 9 = .ok (.iconst (-1), 1) := by decide +kernel
theorem dX8_table_10 : decode cX8_table 10 = .ok (.ireturn, 1) := by decide +kernel
theorem dX8_table_11 : decode cX8_table 11 = .ok (.aload_n 0, 1) := by decide +kernel
theorem dX8_table_12 : decode cX8_table 12 = .ok (.invokevirtual 183, 3) := by decide +kernel
theorem dX8_table_15 : decode cX8_table 15 = .ok (.ifCond .ne 6, 3) := by decide +kernel
theorem dX8_table_18 : decode cX8_table 18 = .ok (.bipush (-5), 2) := by decide +kernel
theorem dX8_table_20 : decode cX8_table 20 = .ok (.ireturn, 1) := by decide +kernel
theorem dX8_table_21 : decode cX8_table 21 = .ok (.iload_n 1, 1) := by decide +kernel
theorem dX8_table_22 : decode cX8_table 22 = .ok (.ifCond .lt 14, 3) := by decide +kernel
theorem dX8_table_25 : decode cX8_table 25 = .ok (.iload_n 1, 1) := by decide +kernel
theorem dX8_table_26 : decode cX8_table 26 = .ok (.aload_n 0, 1) := by decide +kernel
theorem dX8_table_27 : decode cX8_table 27 = .ok (.getfield 46, 3) := by decide +kernel
theorem dX8_table_30 : decode cX8_table 30 = .ok (.getfield 165, 3) := by decide +kernel
theorem dX8_table_33 : decode cX8_table 33 = .ok (.if_icmp .le 5, 3) := by decide +kernel
theorem dX8_table_36 : decode cX8_table 36 = .ok (.iconst (-1), 1) := by decide +kernel
theorem dX8_table_37 : decode cX8_table 37 = .ok (.ireturn, 1) := by decide +kernel
theorem dX8_table_38 : decode cX8_table 38 = .ok (.iload_n 2, 1) := by decide +kernel
theorem dX8_table_39 : decode cX8_table 39 = .ok (.tableswitch 55 0 2 #[25, 35, 45], 25) := by decide +kernel
theorem dX8_table_64 : decode cX8_table 64 = .ok (.aload_n 0, 1) := by decide +kernel
theorem dX8_table_65 : decode cX8_table 65 = .ok (.getfield 53, 3) := by decide +kernel
theorem dX8_table_68 : decode cX8_table 68 = .ok (.getfield 192, 3) := by decide +kernel
theorem dX8_table_71 : decode cX8_table 71 = .ok (.iload_n 1, 1) := by decide +kernel
theorem dX8_table_72 : decode cX8_table 72 = .ok (.iaload, 1) := by decide +kernel
theorem dX8_table_73 : decode cX8_table 73 = .ok (.ireturn, 1) := by decide +kernel
theorem dX8_table_74 : decode cX8_table 74 = .ok (.aload_n 0, 1) := by decide +kernel
theorem dX8_table_75 : decode cX8_table 75 = .ok (.getfield 53, 3) := by decide +kernel
theorem dX8_table_78 : decode cX8_table 78 = .ok (.getfield 195, 3) := by decide +kernel
theorem dX8_table_81 : decode cX8_table 81 = .ok (.iload_n 1, 1) := by decide +kernel
theorem dX8_table_82 : decode cX8_table 82 = .ok (.iaload, 1) := by decide +kernel
theorem dX8_table_83 : decode cX8_table 83 = .ok (.ireturn, 1) := by decide +kernel
theorem dX8_table_84 : decode cX8_table 84 = .ok (.aload_n 0, 1) := by decide +kernel
theorem dX8_table_85 : decode cX8_table 85 = .ok (.getfield 53, 3) := by decide +kernel
theorem dX8_table_88 : decode cX8_table 88 = .ok (.getfield 198, 3) := by decide +kernel
theorem dX8_table_91 : decode cX8_table 91 = .ok (.iload_n 1, 1) := by decide +kernel
theorem dX8_table_92 : decode cX8_table 92 = .ok (.iaload, 1) := by decide +kernel
theorem dX8_table_93 : decode cX8_table 93 = .ok (.ireturn, 1) := by decide +kernel
theorem dX8_table_94 : decode cX8_table 94 = .ok (.aload_n 0, 1) := by decide +kernel
theorem dX8_table_95 : decode cX8_table 95 = .ok (.getfield 46, 3) := by decide +kernel
theorem dX8_table_98 : decode cX8_table 98 = .ok (.iconst 0, 1) := by decide +kernel
theorem dX8_table_99 : decode cX8_table 99 = .ok (.iload_n 1, 1) := by decide +kernel
theorem dX8_table_100 : decode cX8_table 100 = .ok (.invokevirtual 201, 3) := by decide +kernel
theorem dX8_table_103 : decode cX8_table 103 = .ok (.invokestatic 204, 3) := by decide +kernel
theorem dX8_table_106 : decode cX8_table 106 = .ok (.ireturn, 1) := by decide +kernel
set_option maxRecDepth 20000 in
theorem ggX8_thirds_X2_has : GoodIn wsX8_thirds wsX2_has := goodIn_r _ [7, 8, 77, 78] (by decide +kernel) (by decide +kernel)
set_option maxRecDepth 20000 in
theorem gX8_thirds_X2_has : GoodIn wsX8_thirds (wsV RX8 144 RX2 yX2_has wsX2_has) := goodIn_app (goodIn_of _ (by decide +kernel)) ggX8_thirds_X2_has
set_option maxRecDepth 20000 in
theorem ggX8_thirds_X8_measure : GoodIn wsX8_thirds wsX8_measure := goodIn_r _ [13, 2, 14, 1, 15, 16, 17, 18, 19, 20, 21, 22, 23, 24, 25, 26, 27, 28, 29, 30, 31, 32, 33, 34, 35, 36, 37, 38, 39, 40, 41, 42, 43, 44, 12, 45, 46, 47, 48, 6, 49, 8, 50, 51, 52, 64, 65, 66, 67, 68, 69, 70, 71, 72, 73, 74, 75, 76, 79, 80, 81, 82, 83, 84, 85, 77, 78] (by decide +kernel) (by decide +kernel)
set_option maxRecDepth 20000 in
theorem gX8_thirds_X8_measure : GoodIn wsX8_thirds (wsV RX8 145 RX8 yX8_measure wsX8_measure) := goodIn_app (goodIn_of _ (by decide +kernel)) ggX8_thirds_X8_measure
set_option maxRecDepth 20000 in
theorem ggX8_thirds_X7_postsAt : GoodIn wsX8_thirds wsX7_postsAt := goodIn_r _ [56, 23, 79, 80, 81, 82, 83, 84, 85] (by decide +kernel) (by decide +kernel)
set_option maxRecDepth 20000 in
theorem gX8_thirds_X7_postsAt : GoodIn wsX8_thirds (wsV RX8 201 RX7 yX7_postsAt wsX7_postsAt) := goodIn_app (goodIn_of _ (by decide +kernel)) ggX8_thirds_X7_postsAt
set_option maxRecDepth 20000 in
theorem ggX8_thirds_J6_bitCount_0f7a4 : GoodIn wsX8_thirds wsJ6_bitCount_0f7a4 := goodIn_r _ [60, 61, 62, 63] (by decide +kernel) (by decide +kernel)
set_option maxRecDepth 20000 in
theorem gX8_thirds_J6_bitCount_0f7a4 : GoodIn wsX8_thirds (va_wsS RX8 204 yJ6_bitCount_0f7a4 wsJ6_bitCount_0f7a4) := goodIn_app (goodIn_of _ (by decide +kernel)) ggX8_thirds_J6_bitCount_0f7a4
theorem dX8_thirds_0 : decode cX8_thirds 0 = .ok (.aload_n 0, 1) := by decide +kernel
theorem dX8_thirds_1 : decode cX8_thirds 1 = .ok (.getfield 19, 3) := by decide +kernel
theorem dX8_thirds_4 : decode cX8_thirds 4 = .ok (.iload_n 1, 1) := by decide +kernel
theorem dX8_thirds_5 : decode cX8_thirds 5 = .ok (.invokevirtual 144, 3) := by decide +kernel
theorem dX8_thirds_8 : decode cX8_thirds 8 = .ok (.ifCond .eq 23, 3) := by decide +kernel
theorem dX8_thirds_11 : decode cX8_thirds 11 = .ok (.aload_n 0, 1) := by decide +kernel
theorem dX8_thirds_12 : decode cX8_thirds 12 = .ok (.getfield 19, 3) := by decide +kernel
theorem dX8_thirds_15 : decode cX8_thirds 15 = .ok (.iload_n 2, 1) := by decide +kernel
theorem dX8_thirds_16 : decode cX8_thirds 16 = .ok (.invokevirtual 144, 3) := by decide +kernel
theorem dX8_thirds_19 : decode cX8_thirds 19 = .ok (.ifCond .eq 12, 3) := by decide +kernel
theorem dX8_thirds_22 : decode cX8_thirds 22 = .ok (.iload_n 3, 1) := by decide +kernel
theorem dX8_thirds_23 : decode cX8_thirds 23 = .ok (.ifCond .lt 8, 3) := by decide +kernel
theorem dX8_thirds_26 : decode cX8_thirds 26 = .ok (.iload 4, 2) := by decide +kernel
theorem dX8_thirds_28 : decode cX8_thirds 28 = .ok (.ifCond .ge 5, 3) := by decide +kernel
theorem dX8_thirds_31 : decode cX8_thirds 31 = .ok (.iconst (-1), 1) := by decide +kernel
theorem dX8_thirds_32 : decode cX8_thirds 32 = .ok (.ireturn, 1) := by decide +kernel
theorem dX8_thirds_33 : decode cX8_thirds 33 = .ok (.aload_n 0, 1) := by decide +kernel
theorem dX8_thirds_34 : decode cX8_thirds 34 = .ok (.invokevirtual 145, 3) := by decide +kernel
theorem dX8_thirds_37 : decode cX8_thirds 37 = .ok (.aload_n 0, 1) := by decide +kernel
theorem dX8_thirds_38 : decode cX8_thirds 38 = .ok (.getfield 46, 3) := by decide +kernel
theorem dX8_thirds_41 : decode cX8_thirds 41 = .ok (.iload_n 1, 1) := by decide +kernel
theorem dX8_thirds_42 : decode cX8_thirds 42 = .ok (.iload_n 3, 1) := by decide +kernel
theorem dX8_thirds_43 : decode cX8_thirds 43 = .ok (.invokevirtual 201, 3) := by decide +kernel
theorem dX8_thirds_46 : decode cX8_thirds 46 = .ok (.aload_n 0, 1) := by decide +kernel
theorem dX8_thirds_47 : decode cX8_thirds 47 = .ok (.getfield 46, 3) := by decide +kernel
theorem dX8_thirds_50 : decode cX8_thirds 50 = .ok (.iload_n 2, 1) := by decide +kernel
theorem dX8_thirds_51 : decode cX8_thirds 51 = .ok (.iload 4, 2) := by decide +kernel
theorem dX8_thirds_53 : decode cX8_thirds 53 = .ok (.invokevirtual 201, 3) := by decide +kernel
theorem dX8_thirds_56 : decode cX8_thirds 56 = .ok (.iand, 1) := by decide +kernel
theorem dX8_thirds_57 : decode cX8_thirds 57 = .ok (.invokestatic 204, 3) := by decide +kernel
theorem dX8_thirds_60 : decode cX8_thirds 60 = .ok (.ireturn, 1) := by decide +kernel
set_option maxRecDepth 20000 in
theorem ggX8_tell_X6_lay : GoodIn wsX8_tell wsX6_lay := goodIn_r _ [6, 7, 8, 9, 10, 11, 12, 13, 14, 28, 29, 30, 31, 32, 33, 34, 35, 36, 37, 38, 39, 40] (by decide +kernel) (by decide +kernel)
set_option maxRecDepth 20000 in
theorem gX8_tell_X6_lay : GoodIn wsX8_tell (wsV RX8 209 RX6 yX6_lay wsX6_lay) := goodIn_app (goodIn_of _ (by decide +kernel)) ggX8_tell_X6_lay
theorem dX8_tell_0 : decode cX8_tell 0 = .ok (.iload_n 1, 1) := by decide +kernel
theorem dX8_tell_1 : decode cX8_tell 1 = .ok (.iconst 1, 1) := by decide +kernel
theorem dX8_tell_2 : decode cX8_tell 2 = .ok (.if_icmp .lt 8, 3) := by decide +kernel
theorem dX8_tell_5 : decode cX8_tell 5 = .ok (.iload_n 1, 1) := by decide +kernel
theorem dX8_tell_6 : decode cX8_tell 6 = .ok (.iconst 5, 1) := by decide +kernel
theorem dX8_tell_7 : decode cX8_tell 7 = .ok (.if_icmp .le 5, 3) := by decide +kernel
theorem dX8_tell_10 : decode cX8_tell 10 = .ok (.iconst (-1), 1) := by decide +kernel
theorem dX8_tell_11 : decode cX8_tell 11 = .ok (.ireturn, 1) := by decide +kernel
theorem dX8_tell_12 : decode cX8_tell 12 = .ok (.aload_n 0, 1) := by decide +kernel
theorem dX8_tell_13 : decode cX8_tell 13 = .ok (.getfield 60, 3) := by decide +kernel
theorem dX8_tell_16 : decode cX8_tell 16 = .ok (.iload_n 1, 1) := by decide +kernel
theorem dX8_tell_17 : decode cX8_tell 17 = .ok (.invokevirtual 209, 3) := by decide +kernel
theorem dX8_tell_20 : decode cX8_tell 20 = .ok (.iconst 1, 1) := by decide +kernel
theorem dX8_tell_21 : decode cX8_tell 21 = .ok (.ireturn, 1) := by decide +kernel
set_option maxRecDepth 20000 in
theorem ggX8_put_X6_putOnward : GoodIn wsX8_put wsX6_putOnward := goodIn_r _ [7, 8, 9, 28, 29, 30, 31, 32, 33, 34, 35, 36, 37, 38, 39, 40] (by decide +kernel) (by decide +kernel)
set_option maxRecDepth 20000 in
theorem gX8_put_X6_putOnward : GoodIn wsX8_put (wsV RX8 214 RX6 yX6_putOnward wsX6_putOnward) := goodIn_app (goodIn_of _ (by decide +kernel)) ggX8_put_X6_putOnward
set_option maxRecDepth 20000 in
theorem ggX8_put_X6_putBackward : GoodIn wsX8_put wsX6_putBackward := goodIn_r _ [13, 14, 9, 28, 29, 30, 31, 32, 33, 34, 35, 36, 37, 38, 39, 40] (by decide +kernel) (by decide +kernel)
set_option maxRecDepth 20000 in
theorem gX8_put_X6_putBackward : GoodIn wsX8_put (wsV RX8 217 RX6 yX6_putBackward wsX6_putBackward) := goodIn_app (goodIn_of _ (by decide +kernel)) ggX8_put_X6_putBackward
theorem dX8_put_0 : decode cX8_put 0 = .ok (.iload_n 1, 1) := by decide +kernel
theorem dX8_put_1 : decode cX8_put 1 = .ok (.ifCond .lt 18, 3) := by decide +kernel
theorem dX8_put_4 : decode cX8_put 4 = .ok (.iload_n 1, 1) := by decide +kernel
theorem dX8_put_5 : decode cX8_put 5 = .ok (.iconst 1, 1) := by decide +kernel
theorem dX8_put_6 : decode cX8_put 6 = .ok (.if_icmp .gt 13, 3) := by decide +kernel
theorem dX8_put_9 : decode cX8_put 9 = .ok (.iload_n 3, 1) := by decide +kernel
theorem dX8_put_10 : decode cX8_put 10 = .ok (.ifCond .lt 9, 3) := by decide +kernel
theorem dX8_put_13 : decode cX8_put 13 = .ok (.iload_n 3, 1) := by decide +kernel
theorem dX8_put_14 : decode cX8_put 14 = .ok (.bipush 20, 2) := by decide +kernel
theorem dX8_put_16 : decode cX8_put 16 = .ok (.if_icmp .le 5, 3) := by decide +kernel
theorem dX8_put_19 : decode cX8_put 19 = .ok (.iconst (-1), 1) := by decide +kernel
theorem dX8_put_20 : decode cX8_put 20 = .ok (.ireturn, 1) := by decide +kernel
theorem dX8_put_21 : decode cX8_put 21 = .ok (.iload_n 1, 1) := by decide +kernel
theorem dX8_put_22 : decode cX8_put 22 = .ok (.ifCond .ne 32, 3) := by decide +kernel
theorem dX8_put_25 : decode cX8_put 25 = .ok (.iload_n 2, 1) := by decide +kernel
theorem dX8_put_26 : decode cX8_put 26 = .ok (.ifCond .lt 14, 3) := by decide +kernel
theorem dX8_put_29 : decode cX8_put 29 = .ok (.iload_n 2, 1) := by decide +kernel
theorem dX8_put_30 : decode cX8_put 30 = .ok (.aload_n 0, 1) := by decide +kernel
theorem dX8_put_31 : decode cX8_put 31 = .ok (.getfield 60, 3) := by decide +kernel
theorem dX8_put_34 : decode cX8_put 34 = .ok (.getfield 211, 3) := by decide +kernel
theorem dX8_put_37 : decode cX8_put 37 = .ok (.if_icmp .lt 7, 3) := by decide +kernel
theorem dX8_put_40 : decode cX8_put 40 = .ok (.iconst (-1), 1) := by decide +kernel
theorem dX8_put_41 : decode cX8_put 41 = .ok (.goto 12, 3) := by decide +kernel
theorem dX8_put_44 : decode cX8_put 44 = .ok (.aload_n 0, 1) := by decide +kernel
theorem dX8_put_45 : decode cX8_put 45 = .ok (.getfield 60, 3) := by decide +kernel
theorem dX8_put_48 : decode cX8_put 48 = .ok (.iload_n 2, 1) := by decide +kernel
theorem dX8_put_49 : decode cX8_put 49 = .ok (.iload_n 3, 1) := by decide +kernel
theorem dX8_put_50 : decode cX8_put 50 = .ok (.invokevirtual 214, 3) := by decide +kernel
theorem dX8_put_53 : decode cX8_put 53 = .ok (.ireturn, 1) := by decide +kernel
theorem dX8_put_54 : decode cX8_put 54 = .ok (.iload_n 2, 1) := by decide +kernel
theorem dX8_put_55 : decode cX8_put 55 = .ok (.iconst 1, 1) := by decide +kernel
theorem dX8_put_56 : decode cX8_put 56 = .ok (.if_icmp .lt 14, 3) := by decide +kernel
theorem dX8_put_59 : decode cX8_put 59 = .ok (.iload_n 2, 1) := by decide +kernel
theorem dX8_put_60 : decode cX8_put 60 = .ok (.aload_n 0, 1) := by decide +kernel
theorem dX8_put_61 : decode cX8_put 61 = .ok (.getfield 60, 3) := by decide +kernel
theorem dX8_put_64 : decode cX8_put 64 = .ok (.getfield 211, 3) := by decide +kernel
theorem dX8_put_67 : decode cX8_put 67 = .ok (.if_icmp .le 7, 3) := by decide +kernel
theorem dX8_put_70 : decode cX8_put 70 = .ok (.iconst (-1), 1) := by decide +kernel
theorem dX8_put_71 : decode cX8_put 71 = .ok (.goto 12, 3) := by decide +kernel
theorem dX8_put_74 : decode cX8_put 74 = .ok (.aload_n 0, 1) := by decide +kernel
theorem dX8_put_75 : decode cX8_put 75 = .ok (.getfield 60, 3) := by decide +kernel
theorem dX8_put_78 : decode cX8_put 78 = .ok (.iload_n 2, 1) := by decide +kernel
theorem dX8_put_79 : decode cX8_put 79 = .ok (.iload_n 3, 1) := by decide +kernel
theorem dX8_put_80 : decode cX8_put 80 = .ok (.invokevirtual 217, 3) := by decide +kernel
theorem dX8_put_83 : decode cX8_put 83 = .ok (.ireturn, 1) := by decide +kernel
set_option maxRecDepth 20000 in
theorem ggX8_take_X8_isLike : GoodIn wsX8_take wsX8_isLike := goodIn_r _ [12, 3, 13, 14, 1, 15, 16, 17, 18, 11, 19, 20, 21, 22, 23, 24, 25, 26, 27, 28, 29, 30, 31, 32, 33, 34, 35, 36, 37, 38, 39, 40, 41, 42, 43, 44, 45, 46, 47, 48, 49, 50, 51, 52, 53, 54, 55, 56, 57, 58, 59, 60, 61, 62, 63, 64, 65, 66, 67, 68, 69, 70, 71, 72, 73, 74, 75, 76, 77, 78, 79, 80, 81, 82, 83, 84, 85, 86, 87, 88, 89, 90, 91, 92, 93, 94, 95, 118, 119, 120, 121, 122, 123, 124, 125, 126, 127, 128, 129, 130, 138, 139, 140, 141, 142, 143, 144, 131, 132, 133, 134, 135, 136, 137, 158, 159] (by decide +kernel) (by decide +kernel)
set_option maxRecDepth 20000 in
theorem gX8_take_X8_isLike : GoodIn wsX8_take (wsV RX8 183 RX8 yX8_isLike wsX8_isLike) := goodIn_app (goodIn_of _ (by decide +kernel)) ggX8_take_X8_isLike
set_option maxRecDepth 20000 in
theorem ggX8_take_X0_isAtMost : GoodIn wsX8_take wsX0_isAtMost := goodIn_r _ [99, 80, 69, 138, 139, 140, 141, 142, 143, 144] (by decide +kernel) (by decide +kernel)
set_option maxRecDepth 20000 in
theorem gX8_take_X0_isAtMost : GoodIn wsX8_take (wsV RX8 220 RX0 yX0_isAtMost wsX0_isAtMost) := goodIn_app (goodIn_of _ (by decide +kernel)) ggX8_take_X0_isAtMost
set_option maxRecDepth 20000 in
theorem ggX8_take_X6_lay : GoodIn wsX8_take wsX6_lay := goodIn_r _ [104, 105, 106, 107, 108, 109, 39, 40, 41, 145, 146, 147, 148, 149, 150, 151, 152, 153, 154, 155, 156, 157] (by decide +kernel) (by decide +kernel)
set_option maxRecDepth 20000 in
theorem gX8_take_X6_lay : GoodIn wsX8_take (wsV RX8 209 RX6 yX6_lay wsX6_lay) := goodIn_app (goodIn_of _ (by decide +kernel)) ggX8_take_X6_lay
set_option maxRecDepth 20000 in
theorem ggX8_take_X6_putOnward : GoodIn wsX8_take wsX6_putOnward := goodIn_r _ [113, 106, 108, 145, 146, 147, 148, 149, 150, 151, 152, 153, 154, 155, 156, 157] (by decide +kernel) (by decide +kernel)
set_option maxRecDepth 20000 in
theorem gX8_take_X6_putOnward : GoodIn wsX8_take (wsV RX8 214 RX6 yX6_putOnward wsX6_putOnward) := goodIn_app (goodIn_of _ (by decide +kernel)) ggX8_take_X6_putOnward
set_option maxRecDepth 20000 in
theorem ggX8_take_X6_putBackward : GoodIn wsX8_take wsX6_putBackward := goodIn_r _ [117, 107, 108, 145, 146, 147, 148, 149, 150, 151, 152, 153, 154, 155, 156, 157] (by decide +kernel) (by decide +kernel)
set_option maxRecDepth 20000 in
theorem gX8_take_X6_putBackward : GoodIn wsX8_take (wsV RX8 217 RX6 yX6_putBackward wsX6_putBackward) := goodIn_app (goodIn_of _ (by decide +kernel)) ggX8_take_X6_putBackward
theorem dX8_take_0 : decode cX8_take 0 = .ok (.aload_n 0, 1) := by decide +kernel
theorem dX8_take_1 : decode cX8_take 1 = .ok (.invokevirtual 183, 3) := by decide +kernel
theorem dX8_take_4 : decode cX8_take 4 = .ok (.ifCond .eq 44, 3) := by decide +kernel
theorem dX8_take_7 : decode cX8_take 7 = .ok (.aload_n 0, 1) := by decide +kernel
theorem dX8_take_8 : decode cX8_take 8 = .ok (.getfield 46, 3) := by decide +kernel
theorem dX8_take_11 : decode cX8_take 11 = .ok (.getfield 165, 3) := by decide +kernel
theorem dX8_take_14 : decode cX8_take 14 = .ok (.iconst 1, 1) := by decide +kernel
theorem dX8_take_15 : decode cX8_take 15 = .ok (.if_icmp .lt 33, 3) := by decide +kernel
theorem dX8_take_18 : decode cX8_take 18 = .ok (.aload_n 0, 1) := by decide +kernel
theorem dX8_take_19 : decode cX8_take 19 = .ok (.getfield 46, 3) := by decide +kernel
theorem dX8_take_22 : decode cX8_take 22 = .ok (.getfield 165, 3) := by decide +kernel
theorem dX8_take_25 : decode cX8_take 25 = .ok (.iconst 5, 1) := by decide +kernel
theorem dX8_take_26 : decode cX8_take 26 = .ok (.if_icmp .gt 22, 3) := by decide +kernel
theorem dX8_take_29 : decode cX8_take 29 = .ok (.aload_n 0, 1) := by decide +kernel
theorem dX8_take_30 : decode cX8_take 30 = .ok (.getfield 53, 3) := by decide +kernel
theorem dX8_take_33 : decode cX8_take 33 = .ok (.aload_n 0, 1) := by decide +kernel
theorem dX8_take_34 : decode cX8_take 34 = .ok (.getfield 46, 3) := by decide +kernel
theorem dX8_take_37 : decode cX8_take 37 = .ok (.getfield 165, 3) := by decide +kernel
theorem dX8_take_40 : decode cX8_take 40 = .ok (.bipush 20, 2) := by decide +kernel
theorem dX8_take_42 : decode cX8_take 42 = .ok (.invokevirtual 220, 3) := by decide +kernel
theorem dX8_take_45 : decode cX8_take 45 = .ok (.ifCond .ne 6, 3) := by decide +kernel
theorem dX8_take_48 : decode cX8_take 48 = .ok (.bipush (-5), 2) := by decide +kernel
theorem dX8_take_50 : decode cX8_take 50 = .ok (.ireturn, 1) := by decide +kernel
theorem dX8_take_51 : decode cX8_take 51 = .ok (.aload_n 0, 1) := by decide +kernel
theorem dX8_take_52 : decode cX8_take 52 = .ok (.getfield 60, 3) := by decide +kernel
theorem dX8_take_55 : decode cX8_take 55 = .ok (.aload_n 0, 1) := by decide +kernel
theorem dX8_take_56 : decode cX8_take 56 = .ok (.getfield 46, 3) := by decide +kernel
theorem dX8_take_59 : decode cX8_take 59 = .ok (.getfield 165, 3) := by decide +kernel
theorem dX8_take_62 : decode cX8_take 62 = .ok (.invokevirtual 209, 3) := by decide +kernel
theorem dX8_take_65 : decode cX8_take 65 = .ok (.iconst 0, 1) := by decide +kernel
theorem dX8_take_66 : decode cX8_take 66 = .ok (.istore_n 1, 1) := by decide +kernel
theorem dX8_take_67 : decode cX8_take 67 = .ok (.iload_n 1, 1) := by decide +kernel
theorem dX8_take_68 : decode cX8_take 68 = .ok (.aload_n 0, 1) := by decide +kernel
theorem dX8_take_69 : decode cX8_take 69 = .ok (.getfield 46, 3) := by decide +kernel
theorem dX8_take_72 : decode cX8_take 72 = .ok (.getfield 165, 3) := by decide +kernel
theorem dX8_take_75 : decode cX8_take 75 = .ok (.if_icmp .ge 49, 3) := by decide +kernel
theorem dX8_take_78 : decode cX8_take 78 = .ok (.aload_n 0, 1) := by decide +kernel
theorem dX8_take_79 : decode cX8_take 79 = .ok (.getfield 60, 3) := by decide +kernel
theorem dX8_take_82 : decode cX8_take 82 = .ok (.iload_n 1, 1) := by decide +kernel
theorem dX8_take_83 : decode cX8_take 83 = .ok (.aload_n 0, 1) := by decide +kernel
theorem dX8_take_84 : decode cX8_take 84 = .ok (.getfield 53, 3) := by decide +kernel
theorem dX8_take_87 : decode cX8_take 87 = .ok (.getfield 198, 3) := by decide +kernel
theorem dX8_take_90 : decode cX8_take 90 = .ok (.iload_n 1, 1) := by decide +kernel
theorem dX8_take_91 : decode cX8_take 91 = .ok (.iaload, 1) := by decide +kernel
theorem dX8_take_92 : decode cX8_take 92 = .ok (.invokevirtual 214, 3) := by decide +kernel
theorem dX8_take_95 : decode cX8_take 95 = .ok (.pop, 1) := by decide +kernel
theorem dX8_take_96 : decode cX8_take 96 = .ok (.aload_n 0, 1) := by decide +kernel
theorem dX8_take_97 : decode cX8_take 97 = .ok (.getfield 60, 3) := by decide +kernel
theorem dX8_take_100 : decode cX8_take 100 = .ok (.iload_n 1, 1) := by decide +kernel
theorem dX8_take_101 : decode cX8_take 101 = .ok (.iconst 1, 1) := by decide +kernel
theorem dX8_take_102 : decode cX8_take 102 = .ok (.iadd, 1) := by decide +kernel
theorem dX8_take_103 : decode cX8_take 103 = .ok (.aload_n 0, 1) := by decide +kernel
theorem dX8_take_104 : decode cX8_take 104 = .ok (.getfield 53, 3) := by decide +kernel
theorem dX8_take_107 : decode cX8_take 107 = .ok (.getfield 192, 3) := by decide +kernel
theorem dX8_take_110 : decode cX8_take 110 = .ok (.iload_n 1, 1) := by decide +kernel
theorem dX8_take_111 : decode cX8_take 111 = .ok (.iconst 1, 1) := by decide +kernel
theorem dX8_take_112 : decode cX8_take 112 = .ok (.iadd, 1) := by decide +kernel
theorem dX8_take_113 : decode cX8_take 113 = .ok (.iaload, 1) := by decide +kernel
theorem dX8_take_114 : decode cX8_take 114 = .ok (.invokevirtual 217, 3) := by decide +kernel
theorem dX8_take_117 : decode cX8_take 117 = .ok (.pop, 1) := by decide +kernel
theorem dX8_take_118 : decode cX8_take 118 = .ok (.iinc 1 1, 3) := by decide +kernel
theorem dX8_take_121 : decode cX8_take 121 = .ok (.goto (-54), 3) := by decide +kernel
theorem dX8_take_124 : decode cX8_take 124 = .ok (.aload_n 0, 1) := by decide +kernel
theorem dX8_take_125 : decode cX8_take 125 = .ok (.getfield 60, 3) := by decide +kernel
theorem dX8_take_128 : decode cX8_take 128 = .ok (.getfield 211, 3) := by decide +kernel
theorem dX8_take_131 : decode cX8_take 131 = .ok (.ireturn, 1) := by decide +kernel
set_option maxRecDepth 20000 in
theorem ggX8_can_X6_firstBroken : GoodIn wsX8_can wsX6_firstBroken := goodIn_r _ [6, 7, 8, 9, 10, 11, 5, 12, 13, 14, 15, 16, 17, 18, 19, 20, 21, 22, 23, 24, 25, 26, 27, 28, 29, 30, 31, 32, 33, 34, 35, 36, 37, 38, 39, 40, 41, 42, 43, 44, 45, 46, 47, 48, 49, 50, 51, 52, 53, 54, 55, 56, 57, 58, 59, 60, 61, 62, 63, 64, 65, 66, 67, 68, 69, 70, 71, 72, 73, 74, 75, 76, 77, 78, 79, 93, 94, 95, 96, 97, 98, 99, 100, 101, 102, 103, 104, 105] (by decide +kernel) (by decide +kernel)
set_option maxRecDepth 20000 in
theorem gX8_can_X6_firstBroken : GoodIn wsX8_can (wsV RX8 223 RX6 yX6_firstBroken wsX6_firstBroken) := goodIn_app (goodIn_of _ (by decide +kernel)) ggX8_can_X6_firstBroken
theorem dX8_can_0 : decode cX8_can 0 = .ok (.aload_n 0, 1) := by decide +kernel
theorem dX8_can_1 : decode cX8_can 1 = .ok (.getfield 60, 3) := by decide +kernel
theorem dX8_can_4 : decode cX8_can 4 = .ok (.invokevirtual 223, 3) := by decide +kernel
theorem dX8_can_7 : decode cX8_can 7 = .ok (.ireturn, 1) := by decide +kernel
set_option maxRecDepth 20000 in
theorem ggX8_entry_X6_hasRow : GoodIn wsX8_entry wsX6_hasRow := goodIn_r _ [9, 10, 105, 106, 107, 108, 109, 110, 111, 112, 113, 114, 115, 116, 117] (by decide +kernel) (by decide +kernel)
set_option maxRecDepth 20000 in
theorem gX8_entry_X6_hasRow : GoodIn wsX8_entry (wsV RX8 226 RX6 yX6_hasRow wsX6_hasRow) := goodIn_app (goodIn_of _ (by decide +kernel)) ggX8_entry_X6_hasRow
set_option maxRecDepth 20000 in
theorem ggX8_entry_X6_keepsLawsTo : GoodIn wsX8_entry wsX6_keepsLawsTo := goodIn_r _ [14, 15, 16, 17, 8, 18, 19, 20, 21, 22, 23, 24, 25, 26, 27, 28, 10, 29, 30, 31, 32, 33, 34, 35, 36, 37, 38, 39, 40, 41, 42, 43, 44, 45, 46, 47, 48, 49, 50, 51, 52, 53, 54, 55, 56, 57, 58, 59, 60, 61, 62, 63, 64, 65, 66, 67, 68, 69, 70, 71, 72, 73, 74, 75, 76, 77, 78, 79, 80, 81, 82, 83, 84, 85, 86, 87, 88, 89, 90, 105, 106, 107, 108, 109, 110, 111, 112, 113, 114, 115, 116, 117] (by decide +kernel) (by decide +kernel)
set_option maxRecDepth 20000 in
theorem gX8_entry_X6_keepsLawsTo : GoodIn wsX8_entry (wsV RX8 229 RX6 yX6_keepsLawsTo wsX6_keepsLawsTo) := goodIn_app (goodIn_of _ (by decide +kernel)) ggX8_entry_X6_keepsLawsTo
set_option maxRecDepth 20000 in
theorem ggX8_entry_X6_level : GoodIn wsX8_entry wsX6_level := goodIn_r _ [38, 29, 30, 105, 106, 107, 108, 109, 110, 111, 112, 113, 114, 115, 116, 117] (by decide +kernel) (by decide +kernel)
set_option maxRecDepth 20000 in
theorem gX8_entry_X6_level : GoodIn wsX8_entry (wsV RX8 233 RX6 yX6_level wsX6_level) := goodIn_app (goodIn_of _ (by decide +kernel)) ggX8_entry_X6_level
theorem dX8_entry_0 : decode cX8_entry 0 = .ok (.iload_n 2, 1) := by decide +kernel
theorem dX8_entry_1 : decode cX8_entry 1 = .ok (.ifCond .lt 19, 3) := by decide +kernel
theorem dX8_entry_4 : decode cX8_entry 4 = .ok (.iload_n 2, 1) := by decide +kernel
theorem dX8_entry_5 : decode cX8_entry 5 = .ok (.iconst 3, 1) := by decide +kernel
theorem dX8_entry_6 : decode cX8_entry 6 = .ok (.if_icmp .gt 14, 3) := by decide +kernel
theorem dX8_entry_9 : decode cX8_entry 9 = .ok (.aload_n 0, 1) := by decide +kernel
theorem dX8_entry_10 : decode cX8_entry 10 = .ok (.getfield 60, 3) := by decide +kernel
theorem dX8_entry_13 : decode cX8_entry 13 = .ok (.iload_n 1, 1) := by decide +kernel
theorem dX8_entry_14 : decode cX8_entry 14 = .ok (.invokevirtual 226, 3) := by decide +kernel
theorem dX8_entry_17 : decode cX8_entry 17 = .ok (.ifCond .ne 5, 3) := by decide +kernel
theorem dX8_entry_20 : decode cX8_entry 20 = .ok (.iconst (-1), 1) := by decide +kernel
theorem dX8_entry_21 : decode cX8_entry 21 = .ok (.ireturn, 1) := by decide +kernel
theorem dX8_entry_22 : decode cX8_entry 22 = .ok (.aload_n 0, 1) := by decide +kernel
theorem dX8_entry_23 : decode cX8_entry 23 = .ok (.getfield 60, 3) := by decide +kernel
theorem dX8_entry_26 : decode cX8_entry 26 = .ok (.iconst 4, 1) := by decide +kernel
theorem dX8_entry_27 : decode cX8_entry 27 = .ok (.invokevirtual 229, 3) := by decide +kernel
theorem dX8_entry_30 : decode cX8_entry 30 = .ok (.ifCond .ne 6, 3) := by decide +kernel
theorem dX8_entry_33 : decode cX8_entry 33 = .ok (.bipush (-6), 2) := by decide +kernel
theorem dX8_entry_35 : decode cX8_entry 35 = .ok (.ireturn, 1) := by decide +kernel
theorem dX8_entry_36 : decode cX8_entry 36 = .ok (.iload_n 2, 1) := by decide +kernel
theorem dX8_entry_37 : decode cX8_entry 37 = .ok (.tableswitch 56 0 2 #[27, 37, 46], 27) := by decide +kernel
theorem dX8_entry_64 : decode cX8_entry 64 = .ok (.aload_n 0, 1) := by decide +kernel
theorem dX8_entry_65 : decode cX8_entry 65 = .ok (.getfield 60, 3) := by decide +kernel
theorem dX8_entry_68 : decode cX8_entry 68 = .ok (.getfield 232, 3) := by decide +kernel
theorem dX8_entry_71 : decode cX8_entry 71 = .ok (.iload_n 1, 1) := by decide +kernel
theorem dX8_entry_72 : decode cX8_entry 72 = .ok (.iaload, 1) := by decide +kernel
theorem dX8_entry_73 : decode cX8_entry 73 = .ok (.ireturn, 1) := by decide +kernel
theorem dX8_entry_74 : decode cX8_entry 74 = .ok (.aload_n 0, 1) := by decide +kernel
theorem dX8_entry_75 : decode cX8_entry 75 = .ok (.getfield 60, 3) := by decide +kernel
theorem dX8_entry_78 : decode cX8_entry 78 = .ok (.iload_n 1, 1) := by decide +kernel
theorem dX8_entry_79 : decode cX8_entry 79 = .ok (.invokevirtual 233, 3) := by decide +kernel
theorem dX8_entry_82 : decode cX8_entry 82 = .ok (.ireturn, 1) := by decide +kernel
theorem dX8_entry_83 : decode cX8_entry 83 = .ok (.aload_n 0, 1) := by decide +kernel
theorem dX8_entry_84 : decode cX8_entry 84 = .ok (.getfield 60, 3) := by decide +kernel
theorem dX8_entry_87 : decode cX8_entry 87 = .ok (.getfield 236, 3) := by decide +kernel
theorem dX8_entry_90 : decode cX8_entry 90 = .ok (.iload_n 1, 1) := by decide +kernel
theorem dX8_entry_91 : decode cX8_entry 91 = .ok (.iaload, 1) := by decide +kernel
theorem dX8_entry_92 : decode cX8_entry 92 = .ok (.ireturn, 1) := by decide +kernel
theorem dX8_entry_93 : decode cX8_entry 93 = .ok (.aload_n 0, 1) := by decide +kernel
theorem dX8_entry_94 : decode cX8_entry 94 = .ok (.getfield 60, 3) := by decide +kernel
theorem dX8_entry_97 : decode cX8_entry 97 = .ok (.getfield 237, 3) := by decide +kernel
theorem dX8_entry_100 : decode cX8_entry 100 = .ok (.iload_n 1, 1) := by decide +kernel
theorem dX8_entry_101 : decode cX8_entry 101 = .ok (.laload, 1) := by decide +kernel
theorem dX8_entry_102 : decode cX8_entry 102 = .ok (.l2i, 1) := by decide +kernel
theorem dX8_entry_103 : decode cX8_entry 103 = .ok (.ireturn, 1) := by decide +kernel
set_option maxRecDepth 20000 in
theorem ggX8_posts_X6_keepsLawsTo : GoodIn wsX8_posts wsX6_keepsLawsTo := goodIn_r _ [7, 8, 9, 10, 6, 11, 12, 13, 14, 15, 16, 17, 18, 19, 20, 21, 22, 23, 24, 25, 26, 27, 28, 29, 30, 31, 32, 33, 34, 35, 36, 37, 38, 39, 40, 41, 42, 43, 44, 45, 46, 47, 48, 49, 50, 51, 52, 53, 54, 55, 56, 57, 58, 59, 60, 61, 62, 63, 64, 65, 66, 67, 68, 69, 70, 71, 72, 73, 74, 75, 76, 77, 78, 79, 80, 81, 82, 83, 84, 98, 99, 100, 101, 102, 103, 104, 105, 106, 107, 108, 109, 110] (by decide +kernel) (by decide +kernel)
set_option maxRecDepth 20000 in
theorem gX8_posts_X6_keepsLawsTo : GoodIn wsX8_posts (wsV RX8 229 RX6 yX6_keepsLawsTo wsX6_keepsLawsTo) := goodIn_app (goodIn_of _ (by decide +kernel)) ggX8_posts_X6_keepsLawsTo
theorem dX8_posts_0 : decode cX8_posts 0 = .ok (.aload_n 0, 1) := by decide +kernel
theorem dX8_posts_1 : decode cX8_posts 1 = .ok (.getfield 60, 3) := by decide +kernel
theorem dX8_posts_4 : decode cX8_posts 4 = .ok (.iconst 4, 1) := by decide +kernel
theorem dX8_posts_5 : decode cX8_posts 5 = .ok (.invokevirtual 229, 3) := by decide +kernel
theorem dX8_posts_8 : decode cX8_posts 8 = .ok (.ifCond .eq 14, 3) := by decide +kernel
theorem dX8_posts_11 : decode cX8_posts 11 = .ok (.aload_n 0, 1) := by decide +kernel
theorem dX8_posts_12 : decode cX8_posts 12 = .ok (.getfield 60, 3) := by decide +kernel
theorem dX8_posts_15 : decode cX8_posts 15 = .ok (.getfield 241, 3) := by decide +kernel
theorem dX8_posts_18 : decode cX8_posts 18 = .ok (.l2i, 1) := by decide +kernel
theorem dX8_posts_19 : decode cX8_posts 19 = .ok (.goto 5, 3) := by decide +kernel
theorem dX8_posts_22 : decode cX8_posts 22 = .ok (.bipush (-6), 2) := by decide +kernel
theorem dX8_posts_24 : decode cX8_posts 24 = .ok (.ireturn, 1) := by decide +kernel
set_option maxRecDepth 20000 in
theorem ggX8_third_X6_hasRow : GoodIn wsX8_third wsX6_hasRow := goodIn_r _ [7, 8, 103, 104, 105, 106, 107, 108, 109, 110, 111, 112, 113, 114, 115] (by decide +kernel) (by decide +kernel)
set_option maxRecDepth 20000 in
theorem gX8_third_X6_hasRow : GoodIn wsX8_third (wsV RX8 226 RX6 yX6_hasRow wsX6_hasRow) := goodIn_app (goodIn_of _ (by decide +kernel)) ggX8_third_X6_hasRow
set_option maxRecDepth 20000 in
theorem ggX8_third_X6_keepsLawsTo : GoodIn wsX8_third wsX6_keepsLawsTo := goodIn_r _ [12, 13, 14, 15, 6, 16, 17, 18, 19, 20, 21, 22, 23, 24, 25, 26, 8, 27, 28, 29, 30, 31, 32, 33, 34, 35, 36, 37, 38, 39, 40, 41, 42, 43, 44, 45, 46, 47, 48, 49, 50, 51, 52, 53, 54, 55, 56, 57, 58, 59, 60, 61, 62, 63, 64, 65, 66, 67, 68, 69, 70, 71, 72, 73, 74, 75, 76, 77, 78, 79, 80, 81, 82, 83, 84, 85, 86, 87, 88, 103, 104, 105, 106, 107, 108, 109, 110, 111, 112, 113, 114, 115] (by decide +kernel) (by decide +kernel)
set_option maxRecDepth 20000 in
theorem gX8_third_X6_keepsLawsTo : GoodIn wsX8_third (wsV RX8 229 RX6 yX6_keepsLawsTo wsX6_keepsLawsTo) := goodIn_app (goodIn_of _ (by decide +kernel)) ggX8_third_X6_keepsLawsTo
set_option maxRecDepth 20000 in
theorem ggX8_third_X6_place : GoodIn wsX8_third wsX6_place := goodIn_r _ [60] (by decide +kernel) (by decide +kernel)
set_option maxRecDepth 20000 in
theorem gX8_third_X6_place : GoodIn wsX8_third (va_wsS RX8 248 yX6_place wsX6_place) := goodIn_app (goodIn_of _ (by decide +kernel)) ggX8_third_X6_place
theorem dX8_third_0 : decode cX8_third 0 = .ok (.aload_n 0, 1) := by decide +kernel
theorem dX8_third_1 : decode cX8_third 1 = .ok (.getfield 60, 3) := by decide +kernel
theorem dX8_third_4 : decode cX8_third 4 = .ok (.iload_n 1, 1) := by decide +kernel
theorem dX8_third_5 : decode cX8_third 5 = .ok (.invokevirtual 226, 3) := by decide +kernel
theorem dX8_third_8 : decode cX8_third 8 = .ok (.ifCond .eq 25, 3) := by decide +kernel
theorem dX8_third_11 : decode cX8_third 11 = .ok (.aload_n 0, 1) := by decide +kernel
theorem dX8_third_12 : decode cX8_third 12 = .ok (.getfield 60, 3) := by decide +kernel
theorem dX8_third_15 : decode cX8_third 15 = .ok (.iload_n 2, 1) := by decide +kernel
theorem dX8_third_16 : decode cX8_third 16 = .ok (.invokevirtual 226, 3) := by decide +kernel
theorem dX8_third_19 : decode cX8_third 19 = .ok (.ifCond .eq 14, 3) := by decide +kernel
theorem dX8_third_22 : decode cX8_third 22 = .ok (.aload_n 0, 1) := by decide +kernel
theorem dX8_third_23 : decode cX8_third 23 = .ok (.getfield 60, 3) := by decide +kernel
theorem dX8_third_26 : decode cX8_third 26 = .ok (.iload_n 3, 1) := by decide +kernel
theorem dX8_third_27 : decode cX8_third 27 = .ok (.invokevirtual 226, 3) := by decide +kernel
theorem dX8_third_30 : decode cX8_third 30 = .ok (.ifCond .ne 5, 3) := by decide +kernel
theorem dX8_third_33 : decode cX8_third 33 = .ok (.iconst (-1), 1) := by decide +kernel
theorem dX8_third_34 : decode cX8_third 34 = .ok (.ireturn, 1) := by decide +kernel
theorem dX8_third_35 : decode cX8_third 35 = .ok (.aload_n 0, 1) := by decide +kernel
theorem dX8_third_36 : decode cX8_third 36 = .ok (.getfield 60, 3) := by decide +kernel
theorem dX8_third_39 : decode cX8_third 39 = .ok (.bipush 6, 2) := by decide +kernel
theorem dX8_third_41 : decode cX8_third 41 = .ok (.invokevirtual 229, 3) := by decide +kernel
theorem dX8_third_44 : decode cX8_third 44 = .ok (.ifCond .eq 21, 3) := by decide +kernel
theorem dX8_third_47 : decode cX8_third 47 = .ok (.aload_n 0, 1) := by decide +kernel
theorem dX8_third_48 : decode cX8_third 48 = .ok (.getfield 60, 3) := by decide +kernel
theorem dX8_third_51 : decode cX8_third 51 = .ok (.getfield 245, 3) := by decide +kernel
theorem dX8_third_54 : decode cX8_third 54 = .ok (.iload_n 1, 1) := by decide +kernel
theorem dX8_third_55 : decode cX8_third 55 = .ok (.iload_n 2, 1) := by decide +kernel
theorem dX8_third_56 : decode cX8_third 56 = .ok (.iload_n 3, 1) := by decide +kernel
theorem dX8_third_57 : decode cX8_third 57 = .ok (.invokestatic 248, 3) := by decide +kernel
theorem dX8_third_60 : decode cX8_third 60 = .ok (.laload, 1) := by decide +kernel
theorem dX8_third_61 : decode cX8_third 61 = .ok (.l2i, 1) := by decide +kernel
theorem dX8_third_62 : decode cX8_third 62 = .ok (.goto 5, 3) := by decide +kernel
theorem dX8_third_65 : decode cX8_third 65 = .ok (.bipush (-6), 2) := by decide +kernel
theorem dX8_third_67 : decode cX8_third 67 = .ok (.ireturn, 1) := by decide +kernel
set_option maxRecDepth 20000 in
theorem ggX8_root_X6_keepsLawsTo : GoodIn wsX8_root wsX6_keepsLawsTo := goodIn_r _ [9, 10, 11, 12, 8, 13, 14, 15, 16, 17, 18, 19, 20, 21, 22, 23, 24, 25, 26, 27, 28, 29, 30, 31, 32, 33, 34, 35, 36, 37, 38, 39, 40, 41, 42, 43, 44, 45, 46, 47, 48, 49, 50, 51, 52, 53, 54, 55, 56, 57, 58, 59, 60, 61, 62, 63, 64, 65, 66, 67, 68, 69, 70, 71, 72, 73, 74, 75, 76, 77, 78, 79, 80, 81, 82, 83, 84, 85, 86, 100, 101, 102, 103, 104, 105, 106, 107, 108, 109, 110, 111, 112] (by decide +kernel) (by decide +kernel)
set_option maxRecDepth 20000 in
theorem gX8_root_X6_keepsLawsTo : GoodIn wsX8_root (wsV RX8 229 RX6 yX6_keepsLawsTo wsX6_keepsLawsTo) := goodIn_app (goodIn_of _ (by decide +kernel)) ggX8_root_X6_keepsLawsTo
theorem dX8_root_0 : decode cX8_root 0 = .ok (.iload_n 2, 1) := by decide +kernel
theorem dX8_root_1 : decode cX8_root 1 = .ok (.ifCond .eq 12, 3) := by decide +kernel
theorem dX8_root_4 : decode cX8_root 4 = .ok (.iload_n 2, 1) := by decide +kernel
theorem dX8_root_5 : decode cX8_root 5 = .ok (.iconst 1, 1) := by decide +kernel
theorem dX8_root_6 : decode cX8_root 6 = .ok (.if_icmp .eq 7, 3) := by decide +kernel
theorem dX8_root_9 : decode cX8_root 9 = .ok (.sipush (-1000), 3) := by decide +kernel
theorem dX8_root_12 : decode cX8_root 12 = .ok (.ireturn, 1) := by decide +kernel
theorem dX8_root_13 : decode cX8_root 13 = .ok (.aload_n 0, 1) := by decide +kernel
theorem dX8_root_14 : decode cX8_root 14 = .ok (.getfield 60, 3) := by decide +kernel
theorem dX8_root_17 : decode cX8_root 17 = .ok (.bipush 6, 2) := by decide +kernel
theorem dX8_root_19 : decode cX8_root 19 = .ok (.invokevirtual 229, 3) := by decide +kernel
theorem dX8_root_22 : decode cX8_root 22 = .ok (.ifCond .ne 7, 3) := by decide +kernel
theorem dX8_root_25 : decode cX8_root 25 = .ok (.sipush (-1001), 3) := by decide +kernel
theorem dX8_root_28 : decode cX8_root 28 = .ok (.ireturn, 1) := by decide +kernel
theorem dX8_root_29 : decode cX8_root 29 = .ok (.iload_n 1, 1) := by decide +kernel
theorem dX8_root_30 : decode cX8_root 30 = .ok (.ifCond .lt 14, 3) := by decide +kernel
theorem dX8_root_33 : decode cX8_root 33 = .ok (.iload_n 1, 1) := by decide +kernel
theorem dX8_root_34 : decode cX8_root 34 = .ok (.aload_n 0, 1) := by decide +kernel
theorem dX8_root_35 : decode cX8_root 35 = .ok (.getfield 60, 3) := by decide +kernel
theorem dX8_root_38 : decode cX8_root 38 = .ok (.getfield 252, 3) := by decide +kernel
theorem dX8_root_41 : decode cX8_root 41 = .ok (.if_icmp .lt 7, 3) := by decide +kernel
theorem dX8_root_44 : decode cX8_root 44 = .ok (.sipush (-1002), 3) := by decide +kernel
theorem dX8_root_47 : decode cX8_root 47 = .ok (.ireturn, 1) := by decide +kernel
theorem dX8_root_48 : decode cX8_root 48 = .ok (.iload_n 2, 1) := by decide +kernel
theorem dX8_root_49 : decode cX8_root 49 = .ok (.ifCond .ne 15, 3) := by decide +kernel
theorem dX8_root_52 : decode cX8_root 52 = .ok (.aload_n 0, 1) := by decide +kernel
theorem dX8_root_53 : decode cX8_root 53 = .ok (.getfield 60, 3) := by decide +kernel
theorem dX8_root_56 : decode cX8_root 56 = .ok (.getfield 255, 3) := by decide +kernel
theorem dX8_root_59 : decode cX8_root 59 = .ok (.iload_n 1, 1) := by decide +kernel
theorem dX8_root_60 : decode cX8_root 60 = .ok (.iaload, 1) := by decide +kernel
theorem dX8_root_61 : decode cX8_root 61 = .ok (.goto 12, 3) := by decide +kernel
theorem dX8_root_64 : decode cX8_root 64 = .ok (.aload_n 0, 1) := by decide +kernel
theorem dX8_root_65 : decode cX8_root 65 = .ok (.getfield 60, 3) := by decide +kernel
theorem dX8_root_68 : decode cX8_root 68 = .ok (.getfield 258, 3) := by decide +kernel
theorem dX8_root_71 : decode cX8_root 71 = .ok (.iload_n 1, 1) := by decide +kernel
theorem dX8_root_72 : decode cX8_root 72 = .ok (.iaload, 1) := by decide +kernel
theorem dX8_root_73 : decode cX8_root 73 = .ok (.ireturn, 1) := by decide +kernel
set_option maxRecDepth 20000 in
theorem ggX8_walks_X6_hasRow : GoodIn wsX8_walks wsX6_hasRow := goodIn_r _ [8, 9, 112, 113, 114, 115, 116, 117, 118, 119, 120, 121, 122, 123, 124] (by decide +kernel) (by decide +kernel)
set_option maxRecDepth 20000 in
theorem gX8_walks_X6_hasRow : GoodIn wsX8_walks (wsV RX8 226 RX6 yX6_hasRow wsX6_hasRow) := goodIn_app (goodIn_of _ (by decide +kernel)) ggX8_walks_X6_hasRow
set_option maxRecDepth 20000 in
theorem ggX8_walks_X6_keepsLawsTo : GoodIn wsX8_walks wsX6_keepsLawsTo := goodIn_r _ [13, 14, 15, 16, 7, 17, 18, 19, 20, 21, 22, 23, 24, 25, 26, 27, 9, 28, 29, 30, 31, 32, 33, 34, 35, 36, 37, 38, 39, 40, 41, 42, 43, 44, 45, 46, 47, 48, 49, 50, 51, 52, 53, 54, 55, 56, 57, 58, 59, 60, 61, 62, 63, 64, 65, 66, 67, 68, 69, 70, 71, 72, 73, 74, 75, 76, 77, 78, 79, 80, 81, 82, 83, 84, 85, 86, 87, 88, 89, 112, 113, 114, 115, 116, 117, 118, 119, 120, 121, 122, 123, 124] (by decide +kernel) (by decide +kernel)
set_option maxRecDepth 20000 in
theorem gX8_walks_X6_keepsLawsTo : GoodIn wsX8_walks (wsV RX8 229 RX6 yX6_keepsLawsTo wsX6_keepsLawsTo) := goodIn_app (goodIn_of _ (by decide +kernel)) ggX8_walks_X6_keepsLawsTo
set_option maxRecDepth 20000 in
theorem ggX8_walks_X6_countWalks : GoodIn wsX8_walks wsX6_countWalks := goodIn_r _ [93, 94, 9, 29, 28, 95, 96, 97, 98, 34, 35, 36, 7, 37, 112, 113, 114, 115, 116, 117, 118, 119, 120, 121, 122, 123, 124] (by decide +kernel) (by decide +kernel)
set_option maxRecDepth 20000 in
theorem gX8_walks_X6_countWalks : GoodIn wsX8_walks (wsV RX8 263 RX6 yX6_countWalks wsX6_countWalks) := goodIn_app (goodIn_of _ (by decide +kernel)) ggX8_walks_X6_countWalks
theorem dX8_walks_0 : decode cX8_walks 0 = .ok (.aload_n 0, 1) := by decide +kernel
theorem dX8_walks_1 : decode cX8_walks 1 = .ok (.getfield 60, 3) := by decide +kernel
theorem dX8_walks_4 : decode cX8_walks 4 = .ok (.iload_n 1, 1) := by decide +kernel
theorem dX8_walks_5 : decode cX8_walks 5 = .ok (.invokevirtual 226, 3) := by decide +kernel
theorem dX8_walks_8 : decode cX8_walks 8 = .ok (.ifCond .eq 13, 3) := by decide +kernel
theorem dX8_walks_11 : decode cX8_walks 11 = .ok (.iload_n 2, 1) := by decide +kernel
theorem dX8_walks_12 : decode cX8_walks 12 = .ok (.ifCond .lt 9, 3) := by decide +kernel
theorem dX8_walks_15 : decode cX8_walks 15 = .ok (.iload_n 2, 1) := by decide +kernel
theorem dX8_walks_16 : decode cX8_walks 16 = .ok (.bipush 8, 2) := by decide +kernel
theorem dX8_walks_18 : decode cX8_walks 18 = .ok (.if_icmp .le 7, 3) := by decide +kernel
theorem dX8_walks_21 : decode cX8_walks 21 = .ok (.ldc2_w 261, 3) := by decide +kernel
theorem dX8_walks_24 : decode cX8_walks 24 = .ok (.lreturn, 1) := by decide +kernel
theorem dX8_walks_25 : decode cX8_walks 25 = .ok (.aload_n 0, 1) := by decide +kernel
theorem dX8_walks_26 : decode cX8_walks 26 = .ok (.getfield 60, 3) := by decide +kernel
theorem dX8_walks_29 : decode cX8_walks 29 = .ok (.iconst 4, 1) := by decide +kernel
theorem dX8_walks_30 : decode cX8_walks 30 = .ok (.invokevirtual 229, 3) := by decide +kernel
theorem dX8_walks_33 : decode cX8_walks 33 = .ok (.ifCond .eq 15, 3) := by decide +kernel
theorem dX8_walks_36 : decode cX8_walks 36 = .ok (.aload_n 0, 1) := by decide +kernel
theorem dX8_walks_37 : decode cX8_walks 37 = .ok (.getfield 60, 3) := by decide +kernel
theorem dX8_walks_40 : decode cX8_walks 40 = .ok (.iload_n 1, 1) := by decide +kernel
theorem dX8_walks_41 : decode cX8_walks 41 = .ok (.iload_n 2, 1) := by decide +kernel
theorem dX8_walks_42 : decode cX8_walks 42 = .ok (.invokevirtual 263, 3) := by decide +kernel
theorem dX8_walks_45 : decode cX8_walks 45 = .ok (.goto 6, 3) := by decide +kernel
theorem dX8_walks_48 : decode cX8_walks 48 = .ok (.ldc2_w 267, 3) := by decide +kernel
theorem dX8_walks_51 : decode cX8_walks 51 = .ok (.lreturn, 1) := by decide +kernel
theorem dX8_bound_0 : decode cX8_bound 0 = .ok (.iload_n 1, 1) := by decide +kernel
theorem dX8_bound_1 : decode cX8_bound 1 = .ok (.iconst 1, 1) := by decide +kernel
theorem dX8_bound_2 : decode cX8_bound 2 = .ok (.if_icmp .lt 20, 3) := by decide +kernel
theorem dX8_bound_5 : decode cX8_bound 5 = .ok (.iload_n 1, 1) := by decide +kernel
theorem dX8_bound_6 : decode cX8_bound 6 = .ok (.bipush 60, 2) := by decide +kernel
theorem dX8_bound_8 : decode cX8_bound 8 = .ok (.if_icmp .gt 14, 3) := by decide +kernel
theorem dX8_bound_11 : decode cX8_bound 11 = .ok (.iload_n 2, 1) := by decide +kernel
theorem dX8_bound_12 : decode cX8_bound 12 = .ok (.iconst 1, 1) := by decide +kernel
theorem dX8_bound_13 : decode cX8_bound 13 = .ok (.if_icmp .lt 9, 3) := by decide +kernel
theorem dX8_bound_16 : decode cX8_bound 16 = .ok (.iload_n 2, 1) := by decide +kernel
theorem dX8_bound_17 : decode cX8_bound 17 = .ok (.bipush 6, 2) := by decide +kernel
theorem dX8_bound_19 : decode cX8_bound 19 = .ok (.if_icmp .le 7, 3) := by decide +kernel
theorem dX8_bound_22 : decode cX8_bound 22 = .ok (.ldc2_w 261, 3) := by decide +kernel
theorem dX8_bound_25 : decode cX8_bound 25 = .ok (.lreturn, 1) := by decide +kernel
theorem dX8_bound_26 : decode cX8_bound 26 = .ok (.lconst 1, 1) := by decide +kernel
theorem dX8_bound_27 : decode cX8_bound 27 = .ok (.lstore_n 3, 1) := by decide +kernel
theorem dX8_bound_28 : decode cX8_bound 28 = .ok (.iload_n 1, 1) := by decide +kernel
theorem dX8_bound_29 : decode cX8_bound 29 = .ok (.i2l, 1) := by decide +kernel
theorem dX8_bound_30 : decode cX8_bound 30 = .ok (.lstore 5, 2) := by decide +kernel
theorem dX8_bound_32 : decode cX8_bound 32 = .ok (.iconst 1, 1) := by decide +kernel
theorem dX8_bound_33 : decode cX8_bound 33 = .ok (.istore 7, 2) := by decide +kernel
theorem dX8_bound_35 : decode cX8_bound 35 = .ok (.iload 7, 2) := by decide +kernel
theorem dX8_bound_37 : decode cX8_bound 37 = .ok (.iload_n 2, 1) := by decide +kernel
theorem dX8_bound_38 : decode cX8_bound 38 = .ok (.if_icmp .gt 23, 3) := by decide +kernel
theorem dX8_bound_41 : decode cX8_bound 41 = .ok (.lload_n 3, 1) := by decide +kernel
theorem dX8_bound_42 : decode cX8_bound 42 = .ok (.lload 5, 2) := by decide +kernel
theorem dX8_bound_44 : decode cX8_bound 44 = .ok (.ladd, 1) := by decide +kernel
theorem dX8_bound_45 : decode cX8_bound 45 = .ok (.lstore_n 3, 1) := by decide +kernel
theorem dX8_bound_46 : decode cX8_bound 46 = .ok (.lload 5, 2) := by decide +kernel
theorem dX8_bound_48 : decode cX8_bound 48 = .ok (.iload_n 1, 1) := by decide +kernel
theorem dX8_bound_49 : decode cX8_bound 49 = .ok (.iconst 1, 1) := by decide +kernel
theorem dX8_bound_50 : decode cX8_bound 50 = .ok (.isub, 1) := by decide +kernel
theorem dX8_bound_51 : decode cX8_bound 51 = .ok (.i2l, 1) := by decide +kernel
theorem dX8_bound_52 : decode cX8_bound 52 = .ok (.lmul, 1) := by decide +kernel
theorem dX8_bound_53 : decode cX8_bound 53 = .ok (.lstore 5, 2) := by decide +kernel
theorem dX8_bound_55 : decode cX8_bound 55 = .ok (.iinc 7 1, 3) := by decide +kernel
theorem dX8_bound_58 : decode cX8_bound 58 = .ok (.goto (-23), 3) := by decide +kernel
theorem dX8_bound_61 : decode cX8_bound 61 = .ok (.lload_n 3, 1) := by decide +kernel
theorem dX8_bound_62 : decode cX8_bound 62 = .ok (.lreturn, 1) := by decide +kernel
set_option maxRecDepth 20000 in
theorem ggX8_fold_X8_measure : GoodIn wsX8_fold wsX8_measure := goodIn_r _ [10, 1, 11, 2, 12, 13, 14, 15, 16, 17, 18, 19, 20, 21, 22, 23, 24, 25, 26, 27, 28, 29, 30, 31, 32, 33, 34, 35, 36, 37, 38, 39, 40, 41, 9, 42, 43, 44, 45, 46, 47, 48, 49, 50, 51, 119, 120, 121, 122, 123, 124, 125, 126, 127, 128, 129, 130, 131, 134, 135, 136, 137, 138, 139, 140, 132, 133] (by decide +kernel) (by decide +kernel)
set_option maxRecDepth 20000 in
theorem gX8_fold_X8_measure : GoodIn wsX8_fold (wsV RX8 145 RX8 yX8_measure wsX8_measure) := goodIn_app (goodIn_of _ (by decide +kernel)) ggX8_fold_X8_measure
set_option maxRecDepth 20000 in
theorem ggX8_fold_X7_isFolded : GoodIn wsX8_fold wsX7_isFolded := goodIn_r _ [55, 27, 18, 56, 57, 58, 15, 59, 19, 60, 61, 62, 63, 64, 65, 66, 67, 20, 134, 135, 136, 137, 138, 139, 140] (by decide +kernel) (by decide +kernel)
set_option maxRecDepth 20000 in
theorem gX8_fold_X7_isFolded : GoodIn wsX8_fold (wsV RX8 180 RX7 yX7_isFolded wsX7_isFolded) := goodIn_app (goodIn_of _ (by decide +kernel)) ggX8_fold_X7_isFolded
set_option maxRecDepth 20000 in
theorem ggX8_fold_X7_farGroup : GoodIn wsX8_fold wsX7_farGroup := goodIn_r _ [63, 27, 64, 65, 66, 15, 67, 20, 134, 135, 136, 137, 138, 139, 140] (by decide +kernel) (by decide +kernel)
set_option maxRecDepth 20000 in
theorem gX8_fold_X7_farGroup : GoodIn wsX8_fold (wsV RX8 269 RX7 yX7_farGroup wsX7_farGroup) := goodIn_app (goodIn_of _ (by decide +kernel)) ggX8_fold_X7_farGroup
set_option maxRecDepth 20000 in
theorem ggX8_fold_X8_lowestBit : GoodIn wsX8_fold wsX8_lowestBit := goodIn_r _ [71, 72, 73, 74, 75, 76, 77, 78] (by decide +kernel) (by decide +kernel)
set_option maxRecDepth 20000 in
theorem gX8_fold_X8_lowestBit : GoodIn wsX8_fold (va_wsS RX8 272 yX8_lowestBit wsX8_lowestBit) := goodIn_app (goodIn_of _ (by decide +kernel)) ggX8_fold_X8_lowestBit
set_option maxRecDepth 20000 in
theorem ggX8_fold_X2_empty : GoodIn wsX8_fold wsX2_empty := goodIn_r _ [82, 48, 49, 83, 30, 31, 32, 132, 133] (by decide +kernel) (by decide +kernel)
set_option maxRecDepth 20000 in
theorem gX8_fold_X2_empty : GoodIn wsX8_fold (wsV RX8 96 RX2 yX2_empty wsX2_empty) := goodIn_app (goodIn_of _ (by decide +kernel)) ggX8_fold_X2_empty
set_option maxRecDepth 20000 in
theorem ggX8_fold_X2_around : GoodIn wsX8_fold wsX2_around := goodIn_r _ [47, 48, 49, 41, 9, 42, 132, 133] (by decide +kernel) (by decide +kernel)
set_option maxRecDepth 20000 in
theorem gX8_fold_X2_around : GoodIn wsX8_fold (wsV RX8 275 RX2 yX2_around wsX2_around) := goodIn_app (goodIn_of _ (by decide +kernel)) ggX8_fold_X2_around
set_option maxRecDepth 20000 in
theorem ggX8_fold_X2_join : GoodIn wsX8_fold wsX2_join := goodIn_r _ [88, 49, 89, 90, 91, 46, 92, 93, 94, 95, 96, 48, 132, 133] (by decide +kernel) (by decide +kernel)
set_option maxRecDepth 20000 in
theorem gX8_fold_X2_join : GoodIn wsX8_fold (wsV RX8 110 RX2 yX2_join wsX2_join) := goodIn_app (goodIn_of _ (by decide +kernel)) ggX8_fold_X2_join
set_option maxRecDepth 20000 in
theorem ggX8_fold_X8_adopt : GoodIn wsX8_fold wsX8_adopt := goodIn_r _ [100, 2, 5, 3, 101, 102, 103, 46, 104, 48, 49, 105, 106, 107, 108, 109, 110, 111, 9, 112, 1, 11, 113, 114, 115, 116, 117, 118, 119, 120, 121, 122, 123, 124, 125, 126, 127, 128, 129, 130, 131, 132, 133, 134, 135, 136, 137, 138, 139, 140, 141, 142, 143, 144, 145, 146, 147, 148, 149, 150, 151, 152, 153, 154, 155, 156, 157, 158, 159, 160, 161, 162, 163, 164] (by decide +kernel) (by decide +kernel)
set_option maxRecDepth 20000 in
theorem gX8_fold_X8_adopt : GoodIn wsX8_fold (wsV RX8 141 RX8 yX8_adopt wsX8_adopt) := goodIn_app (goodIn_of _ (by decide +kernel)) ggX8_fold_X8_adopt
theorem dX8_fold_0 : decode cX8_fold 0 = .ok (.aload_n 0, 1) := by decide +kernel
theorem dX8_fold_1 : decode cX8_fold 1 = .ok (.invokevirtual 145, 3) := by decide +kernel
theorem dX8_fold_4 : decode cX8_fold 4 = .ok (.aload_n 0, 1) := by decide +kernel
theorem dX8_fold_5 : decode cX8_fold 5 = .ok (.getfield 46, 3) := by decide +kernel
theorem dX8_fold_8 : decode cX8_fold 8 = .ok (.invokevirtual 180, 3) := by decide +kernel
theorem dX8_fold_11 : decode cX8_fold 11 = .ok (.ifCond .ne 6, 3) := by decide +kernel
theorem dX8_fold_14 : decode cX8_fold 14 = .ok (.bipush (-5), 2) := by decide +kernel
theorem dX8_fold_16 : decode cX8_fold 16 = .ok (.ireturn, 1) := by decide +kernel
theorem dX8_fold_17 : decode cX8_fold 17 = .ok (.iconst 0, 1) := by decide +kernel
theorem dX8_fold_18 : decode cX8_fold 18 = .ok (.istore_n 1, 1) := by decide +kernel
theorem dX8_fold_19 : decode cX8_fold 19 = .ok (.iconst 0, 1) := by decide +kernel
theorem dX8_fold_20 : decode cX8_fold 20 = .ok (.istore_n 2, 1) := by decide +kernel
theorem dX8_fold_21 : decode cX8_fold 21 = .ok (.iload_n 2, 1) := by decide +kernel
theorem dX8_fold_22 : decode cX8_fold 22 = .ok (.aload_n 0, 1) := by decide +kernel
theorem dX8_fold_23 : decode cX8_fold 23 = .ok (.getfield 19, 3) := by decide +kernel
theorem dX8_fold_26 : decode cX8_fold 26 = .ok (.getfield 152, 3) := by decide +kernel
theorem dX8_fold_29 : decode cX8_fold 29 = .ok (.if_icmp .ge 36, 3) := by decide +kernel
theorem dX8_fold_32 : decode cX8_fold 32 = .ok (.aload_n 0, 1) := by decide +kernel
theorem dX8_fold_33 : decode cX8_fold 33 = .ok (.getfield 46, 3) := by decide +kernel
theorem dX8_fold_36 : decode cX8_fold 36 = .ok (.iload_n 2, 1) := by decide +kernel
theorem dX8_fold_37 : decode cX8_fold 37 = .ok (.invokevirtual 269, 3) := by decide +kernel
theorem dX8_fold_40 : decode cX8_fold 40 = .ok (.istore_n 3, 1) := by decide +kernel
theorem dX8_fold_41 : decode cX8_fold 41 = .ok (.iload_n 3, 1) := by decide +kernel
theorem dX8_fold_42 : decode cX8_fold 42 = .ok (.invokestatic 272, 3) := by decide +kernel
theorem dX8_fold_45 : decode cX8_fold 45 = .ok (.iload_n 2, 1) := by decide +kernel
theorem dX8_fold_46 : decode cX8_fold 46 = .ok (.if_icmp .ne 13, 3) := by decide +kernel
theorem dX8_fold_49 : decode cX8_fold 49 = .ok (.aload_n 0, 1) := by decide +kernel
theorem dX8_fold_50 : decode cX8_fold 50 = .ok (.getfield 29, 3) := by decide +kernel
theorem dX8_fold_53 : decode cX8_fold 53 = .ok (.iload_n 1, 1) := by decide +kernel
theorem dX8_fold_54 : decode cX8_fold 54 = .ok (.iload_n 3, 1) := by decide +kernel
theorem dX8_fold_55 : decode cX8_fold 55 = .ok (.iastore, 1) := by decide +kernel
theorem dX8_fold_56 : decode cX8_fold 56 = .ok (.iinc 1 1, 3) := by decide +kernel
theorem dX8_fold_59 : decode cX8_fold 59 = .ok (.iinc 2 1, 3) := by decide +kernel
theorem dX8_fold_62 : decode cX8_fold 62 = .ok (.goto (-41), 3) := by decide +kernel
theorem dX8_fold_65 : decode cX8_fold 65 = .ok (.aload_n 0, 1) := by decide +kernel
theorem dX8_fold_66 : decode cX8_fold 66 = .ok (.getfield 23, 3) := by decide +kernel
theorem dX8_fold_69 : decode cX8_fold 69 = .ok (.iload_n 1, 1) := by decide +kernel
theorem dX8_fold_70 : decode cX8_fold 70 = .ok (.invokevirtual 96, 3) := by decide +kernel
theorem dX8_fold_73 : decode cX8_fold 73 = .ok (.iconst 0, 1) := by decide +kernel
theorem dX8_fold_74 : decode cX8_fold 74 = .ok (.istore_n 2, 1) := by decide +kernel
theorem dX8_fold_75 : decode cX8_fold 75 = .ok (.iload_n 2, 1) := by decide +kernel
theorem dX8_fold_76 : decode cX8_fold 76 = .ok (.iload_n 1, 1) := by decide +kernel
theorem dX8_fold_77 : decode cX8_fold 77 = .ok (.if_icmp .ge 62, 3) := by decide +kernel
theorem dX8_fold_80 : decode cX8_fold 80 = .ok (.aload_n 0, 1) := by decide +kernel
theorem dX8_fold_81 : decode cX8_fold 81 = .ok (.getfield 19, 3) := by decide +kernel
theorem dX8_fold_84 : decode cX8_fold 84 = .ok (.aload_n 0, 1) := by decide +kernel
theorem dX8_fold_85 : decode cX8_fold 85 = .ok (.getfield 29, 3) := by decide +kernel
theorem dX8_fold_88 : decode cX8_fold 88 = .ok (.iload_n 2, 1) := by decide +kernel
theorem dX8_fold_89 : decode cX8_fold 89 = .ok (.iaload, 1) := by decide +kernel
theorem dX8_fold_90 : decode cX8_fold 90 = .ok (.invokevirtual 275, 3) := by decide +kernel
theorem dX8_fold_93 : decode cX8_fold 93 = .ok (.istore_n 3, 1) := by decide +kernel
theorem dX8_fold_94 : decode cX8_fold 94 = .ok (.iload_n 2, 1) := by decide +kernel
theorem dX8_fold_95 : decode cX8_fold 95 = .ok (.iconst 1, 1) := by decide +kernel
theorem dX8_fold_96 : decode cX8_fold 96 = .ok (.iadd, 1) := by decide +kernel
theorem dX8_fold_97 : decode cX8_fold 97 = .ok (.istore 4, 2) := by decide +kernel
theorem dX8_fold_99 : decode cX8_fold 99 = .ok (.iload 4, 2) := by decide +kernel
theorem dX8_fold_101 : decode cX8_fold 101 = .ok (.iload_n 1, 1) := by decide +kernel
theorem dX8_fold_102 : decode cX8_fold 102 = .ok (.if_icmp .ge 31, 3) := by decide +kernel
theorem dX8_fold_105 : decode cX8_fold 105 = .ok (.iload_n 3, 1) := by decide +kernel
theorem dX8_fold_106 : decode cX8_fold 106 = .ok (.aload_n 0, 1) := by decide +kernel
theorem dX8_fold_107 : decode cX8_fold 107 = .ok (.getfield 29, 3) := by decide +kernel
theorem dX8_fold_110 : decode cX8_fold 110 = .ok (.iload 4, 2) := by decide +kernel
theorem dX8_fold_112 : decode cX8_fold 112 = .ok (.iaload, 1) := by decide +kernel
theorem dX8_fold_113 : decode cX8_fold 113 = .ok (.iand, 1) := by decide +kernel
theorem dX8_fold_114 : decode cX8_fold 114 = .ok (.ifCond .eq 13, 3) := by decide +kernel
theorem dX8_fold_117 : decode cX8_fold 117 = .ok (.aload_n 0, 1) := by decide +kernel
theorem dX8_fold_118 : decode cX8_fold 118 = .ok (.getfield 23, 3) := by decide +kernel
theorem dX8_fold_121 : decode cX8_fold 121 = .ok (.iload_n 2, 1) := by decide +kernel
theorem dX8_fold_122 : decode cX8_fold 122 = .ok (.iload 4, 2) := by decide +kernel
theorem dX8_fold_124 : decode cX8_fold 124 = .ok (.invokevirtual 110, 3) := by decide +kernel
theorem dX8_fold_127 : decode cX8_fold 127 = .ok (.iinc 4 1, 3) := by decide +kernel
theorem dX8_fold_130 : decode cX8_fold 130 = .ok (.goto (-31), 3) := by decide +kernel
theorem dX8_fold_133 : decode cX8_fold 133 = .ok (.iinc 2 1, 3) := by decide +kernel
theorem dX8_fold_136 : decode cX8_fold 136 = .ok (.goto (-61), 3) := by decide +kernel
theorem dX8_fold_139 : decode cX8_fold 139 = .ok (.aload_n 0, 1) := by decide +kernel
theorem dX8_fold_140 : decode cX8_fold 140 = .ok (.invokevirtual 141, 3) := by decide +kernel
theorem dX8_fold_143 : decode cX8_fold 143 = .ok (.ireturn, 1) := by decide +kernel
set_option maxRecDepth 20000 in
theorem ggX8_half_X8_measure : GoodIn wsX8_half wsX8_measure := goodIn_r _ [11, 1, 12, 3, 13, 14, 15, 16, 17, 18, 19, 20, 21, 22, 23, 24, 25, 26, 27, 28, 29, 30, 31, 32, 33, 34, 35, 36, 37, 38, 39, 40, 41, 42, 10, 43, 44, 45, 46, 47, 48, 49, 50, 51, 52, 106, 107, 108, 109, 110, 111, 112, 113, 114, 115, 116, 117, 118, 119, 120, 121, 122, 123, 124, 125, 126, 127] (by decide +kernel) (by decide +kernel)
set_option maxRecDepth 20000 in
theorem gX8_half_X8_measure : GoodIn wsX8_half (wsV RX8 145 RX8 yX8_measure wsX8_measure) := goodIn_app (goodIn_of _ (by decide +kernel)) ggX8_half_X8_measure
set_option maxRecDepth 20000 in
theorem ggX8_half_X7_isOfSides : GoodIn wsX8_half wsX7_isOfSides := goodIn_r _ [56, 19, 57, 58, 59, 60, 16, 61, 20, 62, 63, 64, 65, 21, 119, 120, 121, 122, 123, 124, 125, 126, 127] (by decide +kernel) (by decide +kernel)
set_option maxRecDepth 20000 in
theorem gX8_half_X7_isOfSides : GoodIn wsX8_half (wsV RX8 176 RX7 yX7_isOfSides wsX7_isOfSides) := goodIn_app (goodIn_of _ (by decide +kernel)) ggX8_half_X7_isOfSides
set_option maxRecDepth 20000 in
theorem ggX8_half_X7_between : GoodIn wsX8_half wsX7_between := goodIn_r _ [61, 20, 119, 120, 121, 122, 123, 124, 125] (by decide +kernel) (by decide +kernel)
set_option maxRecDepth 20000 in
theorem gX8_half_X7_between : GoodIn wsX8_half (wsV RX8 148 RX7 yX7_between wsX7_between) := goodIn_app (goodIn_of _ (by decide +kernel)) ggX8_half_X7_between
set_option maxRecDepth 20000 in
theorem ggX8_half_X2_empty : GoodIn wsX8_half wsX2_empty := goodIn_r _ [70, 49, 50, 71, 31, 32, 33, 126, 127] (by decide +kernel) (by decide +kernel)
set_option maxRecDepth 20000 in
theorem gX8_half_X2_empty : GoodIn wsX8_half (wsV RX8 96 RX2 yX2_empty wsX2_empty) := goodIn_app (goodIn_of _ (by decide +kernel)) ggX8_half_X2_empty
set_option maxRecDepth 20000 in
theorem ggX8_half_X2_join : GoodIn wsX8_half wsX2_join := goodIn_r _ [75, 50, 76, 77, 78, 47, 79, 80, 81, 82, 83, 49, 126, 127] (by decide +kernel) (by decide +kernel)
set_option maxRecDepth 20000 in
theorem gX8_half_X2_join : GoodIn wsX8_half (wsV RX8 110 RX2 yX2_join wsX2_join) := goodIn_app (goodIn_of _ (by decide +kernel)) ggX8_half_X2_join
set_option maxRecDepth 20000 in
theorem ggX8_half_X8_adopt : GoodIn wsX8_half wsX8_adopt := goodIn_r _ [87, 3, 6, 4, 88, 89, 90, 47, 91, 49, 50, 92, 93, 94, 95, 96, 97, 98, 10, 99, 1, 12, 100, 101, 102, 103, 104, 105, 106, 107, 108, 109, 110, 111, 112, 113, 114, 115, 116, 117, 118, 126, 127, 119, 120, 121, 122, 123, 124, 125, 128, 129, 130, 131, 132, 133, 134, 135, 136, 137, 138, 139, 140, 141, 142, 143, 144, 145, 146, 147, 148, 149, 150, 151] (by decide +kernel) (by decide +kernel)
set_option maxRecDepth 20000 in
theorem gX8_half_X8_adopt : GoodIn wsX8_half (wsV RX8 141 RX8 yX8_adopt wsX8_adopt) := goodIn_app (goodIn_of _ (by decide +kernel)) ggX8_half_X8_adopt
theorem dX8_half_0 : decode cX8_half 0 = .ok (.aload_n 0, 1) := by decide +kernel
theorem dX8_half_1 : decode cX8_half 1 = .ok (.invokevirtual 145, 3) := by decide +kernel
theorem dX8_half_4 : decode cX8_half 4 = .ok (.aload_n 0, 1) := by decide +kernel
theorem dX8_half_5 : decode cX8_half 5 = .ok (.getfield 46, 3) := by decide +kernel
theorem dX8_half_8 : decode cX8_half 8 = .ok (.getfield 158, 3) := by decide +kernel
theorem dX8_half_11 : decode cX8_half 11 = .ok (.ifCond .eq 17, 3) := by decide +kernel
theorem dX8_half_14 : decode cX8_half 14 = .ok (.aload_n 0, 1) := by decide +kernel
theorem dX8_half_15 : decode cX8_half 15 = .ok (.getfield 46, 3) := by decide +kernel
theorem dX8_half_18 : decode cX8_half 18 = .ok (.aload_n 0, 1) := by decide +kernel
theorem dX8_half_19 : decode cX8_half 19 = .ok (.getfield 19, 3) := by decide +kernel
theorem dX8_half_22 : decode cX8_half 22 = .ok (.invokevirtual 176, 3) := by decide +kernel
theorem dX8_half_25 : decode cX8_half 25 = .ok (.ifCond .ne 6, 3) := by decide +kernel
theorem dX8_half_28 : decode cX8_half 28 = .ok (.bipush (-5), 2) := by decide +kernel
theorem dX8_half_30 : decode cX8_half 30 = .ok (.ireturn, 1) := by decide +kernel
theorem dX8_half_31 : decode cX8_half 31 = .ok (.iconst 0, 1) := by decide +kernel
theorem dX8_half_32 : decode cX8_half 32 = .ok (.istore_n 1, 1) := by decide +kernel
theorem dX8_half_33 : decode cX8_half 33 = .ok (.iconst 0, 1) := by decide +kernel
theorem dX8_half_34 : decode cX8_half 34 = .ok (.istore_n 2, 1) := by decide +kernel
theorem dX8_half_35 : decode cX8_half 35 = .ok (.iload_n 2, 1) := by decide +kernel
theorem dX8_half_36 : decode cX8_half 36 = .ok (.aload_n 0, 1) := by decide +kernel
theorem dX8_half_37 : decode cX8_half 37 = .ok (.getfield 19, 3) := by decide +kernel
theorem dX8_half_40 : decode cX8_half 40 = .ok (.getfield 152, 3) := by decide +kernel
theorem dX8_half_43 : decode cX8_half 43 = .ok (.if_icmp .ge 33, 3) := by decide +kernel
theorem dX8_half_46 : decode cX8_half 46 = .ok (.aload_n 0, 1) := by decide +kernel
theorem dX8_half_47 : decode cX8_half 47 = .ok (.getfield 46, 3) := by decide +kernel
theorem dX8_half_50 : decode cX8_half 50 = .ok (.iconst 0, 1) := by decide +kernel
theorem dX8_half_51 : decode cX8_half 51 = .ok (.iload_n 2, 1) := by decide +kernel
theorem dX8_half_52 : decode cX8_half 52 = .ok (.invokevirtual 148, 3) := by decide +kernel
theorem dX8_half_55 : decode cX8_half 55 = .ok (.iconst 2, 1) := by decide +kernel
theorem dX8_half_56 : decode cX8_half 56 = .ok (.irem, 1) := by decide +kernel
theorem dX8_half_57 : decode cX8_half 57 = .ok (.ifCond .ne 13, 3) := by decide +kernel
theorem dX8_half_60 : decode cX8_half 60 = .ok (.aload_n 0, 1) := by decide +kernel
theorem dX8_half_61 : decode cX8_half 61 = .ok (.getfield 29, 3) := by decide +kernel
theorem dX8_half_64 : decode cX8_half 64 = .ok (.iload_n 1, 1) := by decide +kernel
theorem dX8_half_65 : decode cX8_half 65 = .ok (.iload_n 2, 1) := by decide +kernel
theorem dX8_half_66 : decode cX8_half 66 = .ok (.iastore, 1) := by decide +kernel
theorem dX8_half_67 : decode cX8_half 67 = .ok (.iinc 1 1, 3) := by decide +kernel
theorem dX8_half_70 : decode cX8_half 70 = .ok (.iinc 2 1, 3) := by decide +kernel
theorem dX8_half_73 : decode cX8_half 73 = .ok (.goto (-38), 3) := by decide +kernel
theorem dX8_half_76 : decode cX8_half 76 = .ok (.aload_n 0, 1) := by decide +kernel
theorem dX8_half_77 : decode cX8_half 77 = .ok (.getfield 23, 3) := by decide +kernel
theorem dX8_half_80 : decode cX8_half 80 = .ok (.iload_n 1, 1) := by decide +kernel
theorem dX8_half_81 : decode cX8_half 81 = .ok (.invokevirtual 96, 3) := by decide +kernel
theorem dX8_half_84 : decode cX8_half 84 = .ok (.iconst 0, 1) := by decide +kernel
theorem dX8_half_85 : decode cX8_half 85 = .ok (.istore_n 2, 1) := by decide +kernel
theorem dX8_half_86 : decode cX8_half 86 = .ok (.iload_n 2, 1) := by decide +kernel
theorem dX8_half_87 : decode cX8_half 87 = .ok (.iload_n 1, 1) := by decide +kernel
theorem dX8_half_88 : decode cX8_half 88 = .ok (.if_icmp .ge 56, 3) := by decide +kernel
theorem dX8_half_91 : decode cX8_half 91 = .ok (.iload_n 2, 1) := by decide +kernel
theorem dX8_half_92 : decode cX8_half 92 = .ok (.iconst 1, 1) := by decide +kernel
theorem dX8_half_93 : decode cX8_half 93 = .ok (.iadd, 1) := by decide +kernel
theorem dX8_half_94 : decode cX8_half 94 = .ok (.istore_n 3, 1) := by decide +kernel
theorem dX8_half_95 : decode cX8_half 95 = .ok (.iload_n 3, 1) := by decide +kernel
theorem dX8_half_96 : decode cX8_half 96 = .ok (.iload_n 1, 1) := by decide +kernel
theorem dX8_half_97 : decode cX8_half 97 = .ok (.if_icmp .ge 41, 3) := by decide +kernel
theorem dX8_half_100 : decode cX8_half 100 = .ok (.aload_n 0, 1) := by decide +kernel
theorem dX8_half_101 : decode cX8_half 101 = .ok (.getfield 46, 3) := by decide +kernel
theorem dX8_half_104 : decode cX8_half 104 = .ok (.aload_n 0, 1) := by decide +kernel
theorem dX8_half_105 : decode cX8_half 105 = .ok (.getfield 29, 3) := by decide +kernel
theorem dX8_half_108 : decode cX8_half 108 = .ok (.iload_n 2, 1) := by decide +kernel
theorem dX8_half_109 : decode cX8_half 109 = .ok (.iaload, 1) := by decide +kernel
theorem dX8_half_110 : decode cX8_half 110 = .ok (.aload_n 0, 1) := by decide +kernel
theorem dX8_half_111 : decode cX8_half 111 = .ok (.getfield 29, 3) := by decide +kernel
theorem dX8_half_114 : decode cX8_half 114 = .ok (.iload_n 3, 1) := by decide +kernel
theorem dX8_half_115 : decode cX8_half 115 = .ok (.iaload, 1) := by decide +kernel
theorem dX8_half_116 : decode cX8_half 116 = .ok (.invokevirtual 148, 3) := by decide +kernel
theorem dX8_half_119 : decode cX8_half 119 = .ok (.iconst 2, 1) := by decide +kernel
theorem dX8_half_120 : decode cX8_half 120 = .ok (.if_icmp .ne 12, 3) := by decide +kernel
theorem dX8_half_123 : decode cX8_half 123 = .ok (.aload_n 0, 1) := by decide +kernel
theorem dX8_half_124 : decode cX8_half 124 = .ok (.getfield 23, 3) := by decide +kernel
theorem dX8_half_127 : decode cX8_half 127 = .ok (.iload_n 2, 1) := by decide +kernel
theorem dX8_half_128 : decode cX8_half 128 = .ok (.iload_n 3, 1) := by decide +kernel
theorem dX8_half_129 : decode cX8_half 129 = .ok (.invokevirtual 110, 3) := by decide +kernel
theorem dX8_half_132 : decode cX8_half 132 = .ok (.iinc 3 1, 3) := by decide +kernel
theorem dX8_half_135 : decode cX8_half 135 = .ok (.goto (-40), 3) := by decide +kernel
theorem dX8_half_138 : decode cX8_half 138 = .ok (.iinc 2 1, 3) := by decide +kernel
theorem dX8_half_141 : decode cX8_half 141 = .ok (.goto (-55), 3) := by decide +kernel
theorem dX8_half_144 : decode cX8_half 144 = .ok (.aload_n 0, 1) := by decide +kernel
theorem dX8_half_145 : decode cX8_half 145 = .ok (.invokevirtual 141, 3) := by decide +kernel
theorem dX8_half_148 : decode cX8_half 148 = .ok (.ireturn, 1) := by decide +kernel
set_option maxRecDepth 20000 in
theorem ggX8_twice_X2_empty : GoodIn wsX8_twice wsX2_empty := goodIn_r _ [8, 9, 10, 11, 12, 13, 14, 71, 72] (by decide +kernel) (by decide +kernel)
set_option maxRecDepth 20000 in
theorem gX8_twice_X2_empty : GoodIn wsX8_twice (wsV RX8 96 RX2 yX2_empty wsX2_empty) := goodIn_app (goodIn_of _ (by decide +kernel)) ggX8_twice_X2_empty
set_option maxRecDepth 20000 in
theorem ggX8_twice_X2_areJoined : GoodIn wsX8_twice wsX2_areJoined := goodIn_r _ [18, 10, 19, 20, 21, 7, 22, 9, 23, 24, 25, 71, 72] (by decide +kernel) (by decide +kernel)
set_option maxRecDepth 20000 in
theorem gX8_twice_X2_areJoined : GoodIn wsX8_twice (wsV RX8 107 RX2 yX2_areJoined wsX2_areJoined) := goodIn_app (goodIn_of _ (by decide +kernel)) ggX8_twice_X2_areJoined
set_option maxRecDepth 20000 in
theorem ggX8_twice_X2_join : GoodIn wsX8_twice wsX2_join := goodIn_r _ [29, 10, 30, 31, 32, 7, 33, 19, 20, 21, 22, 9, 71, 72] (by decide +kernel) (by decide +kernel)
set_option maxRecDepth 20000 in
theorem gX8_twice_X2_join : GoodIn wsX8_twice (wsV RX8 110 RX2 yX2_join wsX2_join) := goodIn_app (goodIn_of _ (by decide +kernel)) ggX8_twice_X2_join
set_option maxRecDepth 20000 in
theorem ggX8_twice_X8_adopt : GoodIn wsX8_twice wsX8_adopt := goodIn_r _ [37, 1, 3, 2, 38, 39, 40, 7, 41, 9, 10, 42, 43, 44, 45, 46, 47, 48, 24, 49, 50, 51, 52, 53, 54, 55, 56, 57, 58, 59, 60, 61, 62, 63, 64, 65, 66, 67, 68, 69, 70, 71, 72, 73, 74, 75, 76, 77, 78, 79, 80, 81, 82, 83, 84, 85, 86, 87, 88, 89, 90, 91, 92, 93, 94, 95, 96, 97, 98, 99, 100, 101, 102, 103] (by decide +kernel) (by decide +kernel)
set_option maxRecDepth 20000 in
theorem gX8_twice_X8_adopt : GoodIn wsX8_twice (wsV RX8 141 RX8 yX8_adopt wsX8_adopt) := goodIn_app (goodIn_of _ (by decide +kernel)) ggX8_twice_X8_adopt
theorem dX8_twice_0 : decode cX8_twice 0 = .ok (.aload_n 0, 1) := by decide +kernel
theorem dX8_twice_1 : decode cX8_twice 1 = .ok (.getfield 19, 3) := by decide +kernel
theorem dX8_twice_4 : decode cX8_twice 4 = .ok (.getfield 152, 3) := by decide +kernel
theorem dX8_twice_7 : decode cX8_twice 7 = .ok (.istore_n 1, 1) := by decide +kernel
theorem dX8_twice_8 : decode cX8_twice 8 = .ok (.iconst 2, 1) := by decide +kernel
theorem dX8_twice_9 : decode cX8_twice 9 = .ok (.iload_n 1, 1) := by decide +kernel
theorem dX8_twice_10 : decode cX8_twice 10 = .ok (.imul, 1) := by decide +kernel
theorem dX8_twice_11 : decode cX8_twice 11 = .ok (.bipush 32, 2) := by decide +kernel
theorem dX8_twice_13 : decode cX8_twice 13 = .ok (.if_icmp .le 6, 3) := by decide +kernel
theorem dX8_twice_16 : decode cX8_twice 16 = .ok (.bipush (-2), 2) := by decide +kernel
theorem dX8_twice_18 : decode cX8_twice 18 = .ok (.ireturn, 1) := by decide +kernel
theorem dX8_twice_19 : decode cX8_twice 19 = .ok (.aload_n 0, 1) := by decide +kernel
theorem dX8_twice_20 : decode cX8_twice 20 = .ok (.getfield 23, 3) := by decide +kernel
theorem dX8_twice_23 : decode cX8_twice 23 = .ok (.iconst 2, 1) := by decide +kernel
theorem dX8_twice_24 : decode cX8_twice 24 = .ok (.iload_n 1, 1) := by decide +kernel
theorem dX8_twice_25 : decode cX8_twice 25 = .ok (.imul, 1) := by decide +kernel
theorem dX8_twice_26 : decode cX8_twice 26 = .ok (.invokevirtual 96, 3) := by decide +kernel
theorem dX8_twice_29 : decode cX8_twice 29 = .ok (.iconst 0, 1) := by decide +kernel
theorem dX8_twice_30 : decode cX8_twice 30 = .ok (.istore_n 2, 1) := by decide +kernel
theorem dX8_twice_31 : decode cX8_twice 31 = .ok (.iload_n 2, 1) := by decide +kernel
theorem dX8_twice_32 : decode cX8_twice 32 = .ok (.iload_n 1, 1) := by decide +kernel
theorem dX8_twice_33 : decode cX8_twice 33 = .ok (.if_icmp .ge 45, 3) := by decide +kernel
theorem dX8_twice_36 : decode cX8_twice 36 = .ok (.iconst 0, 1) := by decide +kernel
theorem dX8_twice_37 : decode cX8_twice 37 = .ok (.istore_n 3, 1) := by decide +kernel
theorem dX8_twice_38 : decode cX8_twice 38 = .ok (.iload_n 3, 1) := by decide +kernel
theorem dX8_twice_39 : decode cX8_twice 39 = .ok (.iload_n 1, 1) := by decide +kernel
theorem dX8_twice_40 : decode cX8_twice 40 = .ok (.if_icmp .ge 32, 3) := by decide +kernel
theorem dX8_twice_43 : decode cX8_twice 43 = .ok (.aload_n 0, 1) := by decide +kernel
theorem dX8_twice_44 : decode cX8_twice 44 = .ok (.getfield 19, 3) := by decide +kernel
theorem dX8_twice_47 : decode cX8_twice 47 = .ok (.iload_n 2, 1) := by decide +kernel
theorem dX8_twice_48 : decode cX8_twice 48 = .ok (.iload_n 3, 1) := by decide +kernel
theorem dX8_twice_49 : decode cX8_twice 49 = .ok (.invokevirtual 107, 3) := by decide +kernel
theorem dX8_twice_52 : decode cX8_twice 52 = .ok (.ifCond .eq 14, 3) := by decide +kernel
theorem dX8_twice_55 : decode cX8_twice 55 = .ok (.aload_n 0, 1) := by decide +kernel
theorem dX8_twice_56 : decode cX8_twice 56 = .ok (.getfield 23, 3) := by decide +kernel
theorem dX8_twice_59 : decode cX8_twice 59 = .ok (.iload_n 2, 1) := by decide +kernel
theorem dX8_twice_60 : decode cX8_twice 60 = .ok (.iload_n 1, 1) := by decide +kernel
theorem dX8_twice_61 : decode cX8_twice 61 = .ok (.iload_n 3, 1) := by decide +kernel
theorem dX8_twice_62 : decode cX8_twice 62 = .ok (.iadd, 1) := by decide +kernel
theorem dX8_twice_63 : decode cX8_twice 63 = .ok (.invokevirtual 110, 3) := by decide +kernel
theorem dX8_twice_66 : decode cX8_twice 66 = .ok (.iinc 3 1, 3) := by decide +kernel
theorem dX8_twice_69 : decode cX8_twice 69 = .ok (.goto (-31), 3) := by decide +kernel
theorem dX8_twice_72 : decode cX8_twice 72 = .ok (.iinc 2 1, 3) := by decide +kernel
theorem dX8_twice_75 : decode cX8_twice 75 = .ok (.goto (-44), 3) := by decide +kernel
theorem dX8_twice_78 : decode cX8_twice 78 = .ok (.aload_n 0, 1) := by decide +kernel
theorem dX8_twice_79 : decode cX8_twice 79 = .ok (.invokevirtual 141, 3) := by decide +kernel
theorem dX8_twice_82 : decode cX8_twice 82 = .ok (.ireturn, 1) := by decide +kernel
set_option maxRecDepth 20000 in
theorem ggX8_power_X8_measure : GoodIn wsX8_power wsX8_measure := goodIn_r _ [9, 4, 10, 2, 11, 12, 13, 14, 15, 16, 17, 18, 19, 20, 21, 22, 23, 24, 25, 26, 27, 28, 29, 30, 31, 32, 33, 34, 35, 36, 37, 38, 39, 40, 8, 41, 42, 43, 44, 45, 46, 47, 48, 49, 50, 109, 110, 111, 112, 113, 114, 115, 116, 117, 118, 119, 120, 121, 124, 125, 126, 127, 128, 129, 130, 122, 123] (by decide +kernel) (by decide +kernel)
set_option maxRecDepth 20000 in
theorem gX8_power_X8_measure : GoodIn wsX8_power (wsV RX8 145 RX8 yX8_measure wsX8_measure) := goodIn_app (goodIn_of _ (by decide +kernel)) ggX8_power_X8_measure
set_option maxRecDepth 20000 in
theorem ggX8_power_X2_empty : GoodIn wsX8_power wsX2_empty := goodIn_r _ [54, 47, 48, 55, 29, 30, 31, 122, 123] (by decide +kernel) (by decide +kernel)
set_option maxRecDepth 20000 in
theorem gX8_power_X2_empty : GoodIn wsX8_power (wsV RX8 96 RX2 yX2_empty wsX2_empty) := goodIn_app (goodIn_of _ (by decide +kernel)) ggX8_power_X2_empty
set_option maxRecDepth 20000 in
theorem ggX8_power_X7_between : GoodIn wsX8_power wsX7_between := goodIn_r _ [59, 18, 124, 125, 126, 127, 128, 129, 130] (by decide +kernel) (by decide +kernel)
set_option maxRecDepth 20000 in
theorem gX8_power_X7_between : GoodIn wsX8_power (wsV RX8 148 RX7 yX7_between wsX7_between) := goodIn_app (goodIn_of _ (by decide +kernel)) ggX8_power_X7_between
set_option maxRecDepth 20000 in
theorem ggX8_power_X2_join : GoodIn wsX8_power wsX2_join := goodIn_r _ [63, 48, 64, 65, 66, 45, 67, 68, 69, 70, 71, 47, 122, 123] (by decide +kernel) (by decide +kernel)
set_option maxRecDepth 20000 in
theorem gX8_power_X2_join : GoodIn wsX8_power (wsV RX8 110 RX2 yX2_join wsX2_join) := goodIn_app (goodIn_of _ (by decide +kernel)) ggX8_power_X2_join
set_option maxRecDepth 20000 in
theorem ggX8_power_X8_adopt : GoodIn wsX8_power wsX8_adopt := goodIn_r _ [75, 2, 1, 3, 76, 77, 78, 45, 79, 47, 48, 80, 81, 82, 83, 84, 85, 86, 8, 87, 4, 10, 88, 89, 90, 91, 92, 93, 109, 110, 111, 112, 113, 114, 115, 116, 117, 118, 119, 120, 121, 122, 123, 124, 125, 126, 127, 128, 129, 130, 131, 132, 133, 134, 135, 136, 137, 138, 139, 140, 141, 142, 143, 144, 145, 146, 147, 148, 149, 150, 151, 152, 153, 154] (by decide +kernel) (by decide +kernel)
set_option maxRecDepth 20000 in
theorem gX8_power_X8_adopt : GoodIn wsX8_power (wsV RX8 141 RX8 yX8_adopt wsX8_adopt) := goodIn_app (goodIn_of _ (by decide +kernel)) ggX8_power_X8_adopt
set_option maxRecDepth 20000 in
theorem ggX8_power_X2_roads : GoodIn wsX8_power wsX2_roads := goodIn_r _ [97, 47, 98, 99, 100, 45, 101, 48, 102, 103, 104, 105, 106, 107, 108, 122, 123] (by decide +kernel) (by decide +kernel)
set_option maxRecDepth 20000 in
theorem gX8_power_X2_roads : GoodIn wsX8_power (wsV RX8 120 RX2 yX2_roads wsX2_roads) := goodIn_app (goodIn_of _ (by decide +kernel)) ggX8_power_X2_roads
theorem dX8_power_0 : decode cX8_power 0 = .ok (.iload_n 1, 1) := by decide +kernel
theorem dX8_power_1 : decode cX8_power 1 = .ok (.iconst 1, 1) := by decide +kernel
theorem dX8_power_2 : decode cX8_power 2 = .ok (.if_icmp .ge 5, 3) := by decide +kernel
theorem dX8_power_5 : decode cX8_power 5 = .ok (.iconst (-1), 1) := by decide +kernel
theorem dX8_power_6 : decode cX8_power 6 = .ok (.ireturn, 1) := by decide +kernel
theorem dX8_power_7 : decode cX8_power 7 = .ok (.aload_n 0, 1) := by decide +kernel
theorem dX8_power_8 : decode cX8_power 8 = .ok (.invokevirtual 145, 3) := by decide +kernel
theorem dX8_power_11 : decode cX8_power 11 = .ok (.aload_n 0, 1) := by decide +kernel
theorem dX8_power_12 : decode cX8_power 12 = .ok (.getfield 23, 3) := by decide +kernel
theorem dX8_power_15 : decode cX8_power 15 = .ok (.aload_n 0, 1) := by decide +kernel
theorem dX8_power_16 : decode cX8_power 16 = .ok (.getfield 19, 3) := by decide +kernel
theorem dX8_power_19 : decode cX8_power 19 = .ok (.getfield 152, 3) := by decide +kernel
theorem dX8_power_22 : decode cX8_power 22 = .ok (.invokevirtual 96, 3) := by decide +kernel
theorem dX8_power_25 : decode cX8_power 25 = .ok (.iconst 0, 1) := by decide +kernel
theorem dX8_power_26 : decode cX8_power 26 = .ok (.istore_n 2, 1) := by decide +kernel
theorem dX8_power_27 : decode cX8_power 27 = .ok (.iload_n 2, 1) := by decide +kernel
theorem dX8_power_28 : decode cX8_power 28 = .ok (.aload_n 0, 1) := by decide +kernel
theorem dX8_power_29 : decode cX8_power 29 = .ok (.getfield 19, 3) := by decide +kernel
theorem dX8_power_32 : decode cX8_power 32 = .ok (.getfield 152, 3) := by decide +kernel
theorem dX8_power_35 : decode cX8_power 35 = .ok (.if_icmp .ge 52, 3) := by decide +kernel
theorem dX8_power_38 : decode cX8_power 38 = .ok (.iload_n 2, 1) := by decide +kernel
theorem dX8_power_39 : decode cX8_power 39 = .ok (.iconst 1, 1) := by decide +kernel
theorem dX8_power_40 : decode cX8_power 40 = .ok (.iadd, 1) := by decide +kernel
theorem dX8_power_41 : decode cX8_power 41 = .ok (.istore_n 3, 1) := by decide +kernel
theorem dX8_power_42 : decode cX8_power 42 = .ok (.iload_n 3, 1) := by decide +kernel
theorem dX8_power_43 : decode cX8_power 43 = .ok (.aload_n 0, 1) := by decide +kernel
theorem dX8_power_44 : decode cX8_power 44 = .ok (.getfield 19, 3) := by decide +kernel
theorem dX8_power_47 : decode cX8_power 47 = .ok (.getfield 152, 3) := by decide +kernel
theorem dX8_power_50 : decode cX8_power 50 = .ok (.if_icmp .ge 31, 3) := by decide +kernel
theorem dX8_power_53 : decode cX8_power 53 = .ok (.aload_n 0, 1) := by decide +kernel
theorem dX8_power_54 : decode cX8_power 54 = .ok (.getfield 46, 3) := by decide +kernel
theorem dX8_power_57 : decode cX8_power 57 = .ok (.iload_n 2, 1) := by decide +kernel
theorem dX8_power_58 : decode cX8_power 58 = .ok (.iload_n 3, 1) := by decide +kernel
theorem dX8_power_59 : decode cX8_power 59 = .ok (.invokevirtual 148, 3) := by decide +kernel
theorem dX8_power_62 : decode cX8_power 62 = .ok (.iload_n 1, 1) := by decide +kernel
theorem dX8_power_63 : decode cX8_power 63 = .ok (.if_icmp .ne 12, 3) := by decide +kernel
theorem dX8_power_66 : decode cX8_power 66 = .ok (.aload_n 0, 1) := by decide +kernel
theorem dX8_power_67 : decode cX8_power 67 = .ok (.getfield 23, 3) := by decide +kernel
theorem dX8_power_70 : decode cX8_power 70 = .ok (.iload_n 2, 1) := by decide +kernel
theorem dX8_power_71 : decode cX8_power 71 = .ok (.iload_n 3, 1) := by decide +kernel
theorem dX8_power_72 : decode cX8_power 72 = .ok (.invokevirtual 110, 3) := by decide +kernel
theorem dX8_power_75 : decode cX8_power 75 = .ok (.iinc 3 1, 3) := by decide +kernel
theorem dX8_power_78 : decode cX8_power 78 = .ok (.goto (-36), 3) := by decide +kernel
theorem dX8_power_81 : decode cX8_power 81 = .ok (.iinc 2 1, 3) := by decide +kernel
theorem dX8_power_84 : decode cX8_power 84 = .ok (.goto (-57), 3) := by decide +kernel
theorem dX8_power_87 : decode cX8_power 87 = .ok (.aload_n 0, 1) := by decide +kernel
theorem dX8_power_88 : decode cX8_power 88 = .ok (.invokevirtual 141, 3) := by decide +kernel
theorem dX8_power_91 : decode cX8_power 91 = .ok (.pop, 1) := by decide +kernel
theorem dX8_power_92 : decode cX8_power 92 = .ok (.aload_n 0, 1) := by decide +kernel
theorem dX8_power_93 : decode cX8_power 93 = .ok (.getfield 19, 3) := by decide +kernel
theorem dX8_power_96 : decode cX8_power 96 = .ok (.invokevirtual 120, 3) := by decide +kernel
theorem dX8_power_99 : decode cX8_power 99 = .ok (.ireturn, 1) := by decide +kernel
set_option maxRecDepth 20000 in
theorem ggX8_other_X2_empty : GoodIn wsX8_other wsX2_empty := goodIn_r _ [8, 9, 10, 11, 12, 13, 14, 86, 87] (by decide +kernel) (by decide +kernel)
set_option maxRecDepth 20000 in
theorem gX8_other_X2_empty : GoodIn wsX8_other (wsV RX8 96 RX2 yX2_empty wsX2_empty) := goodIn_app (goodIn_of _ (by decide +kernel)) ggX8_other_X2_empty
set_option maxRecDepth 20000 in
theorem ggX8_other_X2_areJoined : GoodIn wsX8_other wsX2_areJoined := goodIn_r _ [18, 10, 19, 20, 21, 7, 22, 9, 23, 24, 25, 86, 87] (by decide +kernel) (by decide +kernel)
set_option maxRecDepth 20000 in
theorem gX8_other_X2_areJoined : GoodIn wsX8_other (wsV RX8 107 RX2 yX2_areJoined wsX2_areJoined) := goodIn_app (goodIn_of _ (by decide +kernel)) ggX8_other_X2_areJoined
set_option maxRecDepth 20000 in
theorem ggX8_other_X2_join : GoodIn wsX8_other wsX2_join := goodIn_r _ [29, 10, 30, 31, 32, 7, 33, 19, 20, 21, 22, 9, 86, 87] (by decide +kernel) (by decide +kernel)
set_option maxRecDepth 20000 in
theorem gX8_other_X2_join : GoodIn wsX8_other (wsV RX8 110 RX2 yX2_join wsX2_join) := goodIn_app (goodIn_of _ (by decide +kernel)) ggX8_other_X2_join
set_option maxRecDepth 20000 in
theorem ggX8_other_X8_adopt : GoodIn wsX8_other wsX8_adopt := goodIn_r _ [37, 2, 1, 3, 38, 39, 40, 7, 41, 9, 10, 42, 43, 44, 45, 46, 47, 48, 24, 49, 50, 51, 52, 53, 54, 55, 56, 57, 73, 74, 75, 76, 77, 78, 79, 80, 81, 82, 83, 84, 85, 86, 87, 88, 89, 90, 91, 92, 93, 94, 95, 96, 97, 98, 99, 100, 101, 102, 103, 104, 105, 106, 107, 108, 109, 110, 111, 112, 113, 114, 115, 116, 117, 118] (by decide +kernel) (by decide +kernel)
set_option maxRecDepth 20000 in
theorem gX8_other_X8_adopt : GoodIn wsX8_other (wsV RX8 141 RX8 yX8_adopt wsX8_adopt) := goodIn_app (goodIn_of _ (by decide +kernel)) ggX8_other_X8_adopt
set_option maxRecDepth 20000 in
theorem ggX8_other_X2_roads : GoodIn wsX8_other wsX2_roads := goodIn_r _ [61, 9, 62, 63, 64, 7, 65, 10, 66, 67, 68, 69, 70, 71, 72, 86, 87] (by decide +kernel) (by decide +kernel)
set_option maxRecDepth 20000 in
theorem gX8_other_X2_roads : GoodIn wsX8_other (wsV RX8 120 RX2 yX2_roads wsX2_roads) := goodIn_app (goodIn_of _ (by decide +kernel)) ggX8_other_X2_roads
theorem dX8_other_0 : decode cX8_other 0 = .ok (.aload_n 0, 1) := by decide +kernel
theorem dX8_other_1 : decode cX8_other 1 = .ok (.getfield 23, 3) := by decide +kernel
theorem dX8_other_4 : decode cX8_other 4 = .ok (.aload_n 0, 1) := by decide +kernel
theorem dX8_other_5 : decode cX8_other 5 = .ok (.getfield 19, 3) := by decide +kernel
theorem dX8_other_8 : decode cX8_other 8 = .ok (.getfield 152, 3) := by decide +kernel
theorem dX8_other_11 : decode cX8_other 11 = .ok (.invokevirtual 96, 3) := by decide +kernel
theorem dX8_other_14 : decode cX8_other 14 = .ok (.iconst 0, 1) := by decide +kernel
theorem dX8_other_15 : decode cX8_other 15 = .ok (.istore_n 1, 1) := by decide +kernel
theorem dX8_other_16 : decode cX8_other 16 = .ok (.iload_n 1, 1) := by decide +kernel
theorem dX8_other_17 : decode cX8_other 17 = .ok (.aload_n 0, 1) := by decide +kernel
theorem dX8_other_18 : decode cX8_other 18 = .ok (.getfield 19, 3) := by decide +kernel
theorem dX8_other_21 : decode cX8_other 21 = .ok (.getfield 152, 3) := by decide +kernel
theorem dX8_other_24 : decode cX8_other 24 = .ok (.if_icmp .ge 51, 3) := by decide +kernel
theorem dX8_other_27 : decode cX8_other 27 = .ok (.iload_n 1, 1) := by decide +kernel
theorem dX8_other_28 : decode cX8_other 28 = .ok (.iconst 1, 1) := by decide +kernel
theorem dX8_other_29 : decode cX8_other 29 = .ok (.iadd, 1) := by decide +kernel
theorem dX8_other_30 : decode cX8_other 30 = .ok (.istore_n 2, 1) := by decide +kernel
theorem dX8_other_31 : decode cX8_other 31 = .ok (.iload_n 2, 1) := by decide +kernel
theorem dX8_other_32 : decode cX8_other 32 = .ok (.aload_n 0, 1) := by decide +kernel
theorem dX8_other_33 : decode cX8_other 33 = .ok (.getfield 19, 3) := by decide +kernel
theorem dX8_other_36 : decode cX8_other 36 = .ok (.getfield 152, 3) := by decide +kernel
theorem dX8_other_39 : decode cX8_other 39 = .ok (.if_icmp .ge 30, 3) := by decide +kernel
theorem dX8_other_42 : decode cX8_other 42 = .ok (.aload_n 0, 1) := by decide +kernel
theorem dX8_other_43 : decode cX8_other 43 = .ok (.getfield 19, 3) := by decide +kernel
theorem dX8_other_46 : decode cX8_other 46 = .ok (.iload_n 1, 1) := by decide +kernel
theorem dX8_other_47 : decode cX8_other 47 = .ok (.iload_n 2, 1) := by decide +kernel
theorem dX8_other_48 : decode cX8_other 48 = .ok (.invokevirtual 107, 3) := by decide +kernel
theorem dX8_other_51 : decode cX8_other 51 = .ok (.ifCond .ne 12, 3) := by decide +kernel
theorem dX8_other_54 : decode cX8_other 54 = .ok (.aload_n 0, 1) := by decide +kernel
theorem dX8_other_55 : decode cX8_other 55 = .ok (.getfield 23, 3) := by decide +kernel
theorem dX8_other_58 : decode cX8_other 58 = .ok (.iload_n 1, 1) := by decide +kernel
theorem dX8_other_59 : decode cX8_other 59 = .ok (.iload_n 2, 1) := by decide +kernel
theorem dX8_other_60 : decode cX8_other 60 = .ok (.invokevirtual 110, 3) := by decide +kernel
theorem dX8_other_63 : decode cX8_other 63 = .ok (.iinc 2 1, 3) := by decide +kernel
theorem dX8_other_66 : decode cX8_other 66 = .ok (.goto (-35), 3) := by decide +kernel
theorem dX8_other_69 : decode cX8_other 69 = .ok (.iinc 1 1, 3) := by decide +kernel
theorem dX8_other_72 : decode cX8_other 72 = .ok (.goto (-56), 3) := by decide +kernel
theorem dX8_other_75 : decode cX8_other 75 = .ok (.aload_n 0, 1) := by decide +kernel
theorem dX8_other_76 : decode cX8_other 76 = .ok (.invokevirtual 141, 3) := by decide +kernel
theorem dX8_other_79 : decode cX8_other 79 = .ok (.pop, 1) := by decide +kernel
theorem dX8_other_80 : decode cX8_other 80 = .ok (.aload_n 0, 1) := by decide +kernel
theorem dX8_other_81 : decode cX8_other 81 = .ok (.getfield 19, 3) := by decide +kernel
theorem dX8_other_84 : decode cX8_other 84 = .ok (.invokevirtual 120, 3) := by decide +kernel
theorem dX8_other_87 : decode cX8_other 87 = .ok (.ireturn, 1) := by decide +kernel
set_option maxRecDepth 20000 in
theorem ggX8_lines_X2_roads : GoodIn wsX8_lines wsX2_roads := goodIn_r _ [9, 10, 11, 12, 13, 8, 14, 15, 16, 17, 18, 19, 20, 21, 22, 92, 93] (by decide +kernel) (by decide +kernel)
set_option maxRecDepth 20000 in
theorem gX8_lines_X2_roads : GoodIn wsX8_lines (wsV RX8 120 RX2 yX2_roads wsX2_roads) := goodIn_app (goodIn_of _ (by decide +kernel)) ggX8_lines_X2_roads
set_option maxRecDepth 20000 in
theorem ggX8_lines_X8_listRoads : GoodIn wsX8_lines wsX8_listRoads := goodIn_r _ [27, 1, 28, 3, 4, 29, 30, 31, 8, 32, 15, 33, 34, 35, 36, 10, 37, 26, 38, 79, 80, 81, 82, 83, 84, 85, 86, 87, 88, 89, 90, 91, 92, 93] (by decide +kernel) (by decide +kernel)
set_option maxRecDepth 20000 in
theorem gX8_lines_X8_listRoads : GoodIn wsX8_lines (wsV RX8 278 RX8 yX8_listRoads wsX8_listRoads) := goodIn_app (goodIn_of _ (by decide +kernel)) ggX8_lines_X8_listRoads
set_option maxRecDepth 20000 in
theorem ggX8_lines_X2_empty : GoodIn wsX8_lines wsX2_empty := goodIn_r _ [42, 10, 15, 43, 44, 45, 46, 92, 93] (by decide +kernel) (by decide +kernel)
set_option maxRecDepth 20000 in
theorem gX8_lines_X2_empty : GoodIn wsX8_lines (wsV RX8 96 RX2 yX2_empty wsX2_empty) := goodIn_app (goodIn_of _ (by decide +kernel)) ggX8_lines_X2_empty
set_option maxRecDepth 20000 in
theorem ggX8_lines_X2_join : GoodIn wsX8_lines wsX2_join := goodIn_r _ [50, 15, 51, 52, 53, 8, 54, 33, 34, 35, 36, 10, 92, 93] (by decide +kernel) (by decide +kernel)
set_option maxRecDepth 20000 in
theorem gX8_lines_X2_join : GoodIn wsX8_lines (wsV RX8 110 RX2 yX2_join wsX2_join) := goodIn_app (goodIn_of _ (by decide +kernel)) ggX8_lines_X2_join
set_option maxRecDepth 20000 in
theorem ggX8_lines_X8_adopt : GoodIn wsX8_lines wsX8_adopt := goodIn_r _ [58, 1, 2, 28, 59, 60, 61, 8, 62, 10, 15, 63, 64, 65, 66, 67, 68, 69, 26, 70, 71, 72, 73, 74, 75, 76, 77, 78, 79, 80, 81, 82, 83, 84, 85, 86, 87, 88, 89, 90, 91, 92, 93, 94, 95, 96, 97, 98, 99, 100, 101, 102, 103, 104, 105, 106, 107, 108, 109, 110, 111, 112, 113, 114, 115, 116, 117, 118, 119, 120, 121, 122, 123, 124] (by decide +kernel) (by decide +kernel)
set_option maxRecDepth 20000 in
theorem gX8_lines_X8_adopt : GoodIn wsX8_lines (wsV RX8 141 RX8 yX8_adopt wsX8_adopt) := goodIn_app (goodIn_of _ (by decide +kernel)) ggX8_lines_X8_adopt
theorem dX8_lines_0 : decode cX8_lines 0 = .ok (.aload_n 0, 1) := by decide +kernel
theorem dX8_lines_1 : decode cX8_lines 1 = .ok (.getfield 19, 3) := by decide +kernel
theorem dX8_lines_4 : decode cX8_lines 4 = .ok (.invokevirtual 120, 3) := by decide +kernel
theorem dX8_lines_7 : decode cX8_lines 7 = .ok (.istore_n 1, 1) := by decide +kernel
theorem dX8_lines_8 : decode cX8_lines 8 = .ok (.iload_n 1, 1) := by decide +kernel
theorem dX8_lines_9 : decode cX8_lines 9 = .ok (.bipush 32, 2) := by decide +kernel
theorem dX8_lines_11 : decode cX8_lines 11 = .ok (.if_icmp .le 6, 3) := by decide +kernel
theorem dX8_lines_14 : decode cX8_lines 14 = .ok (.bipush (-2), 2) := by decide +kernel
theorem dX8_lines_16 : decode cX8_lines 16 = .ok (.ireturn, 1) := by decide +kernel
theorem dX8_lines_17 : decode cX8_lines 17 = .ok (.aload_n 0, 1) := by decide +kernel
theorem dX8_lines_18 : decode cX8_lines 18 = .ok (.invokevirtual 278, 3) := by decide +kernel
theorem dX8_lines_21 : decode cX8_lines 21 = .ok (.aload_n 0, 1) := by decide +kernel
theorem dX8_lines_22 : decode cX8_lines 22 = .ok (.getfield 23, 3) := by decide +kernel
theorem dX8_lines_25 : decode cX8_lines 25 = .ok (.iload_n 1, 1) := by decide +kernel
theorem dX8_lines_26 : decode cX8_lines 26 = .ok (.invokevirtual 96, 3) := by decide +kernel
theorem dX8_lines_29 : decode cX8_lines 29 = .ok (.iconst 0, 1) := by decide +kernel
theorem dX8_lines_30 : decode cX8_lines 30 = .ok (.istore_n 2, 1) := by decide +kernel
theorem dX8_lines_31 : decode cX8_lines 31 = .ok (.iload_n 2, 1) := by decide +kernel
theorem dX8_lines_32 : decode cX8_lines 32 = .ok (.iload_n 1, 1) := by decide +kernel
theorem dX8_lines_33 : decode cX8_lines 33 = .ok (.if_icmp .ge 93, 3) := by decide +kernel
theorem dX8_lines_36 : decode cX8_lines 36 = .ok (.iload_n 2, 1) := by decide +kernel
theorem dX8_lines_37 : decode cX8_lines 37 = .ok (.iconst 1, 1) := by decide +kernel
theorem dX8_lines_38 : decode cX8_lines 38 = .ok (.iadd, 1) := by decide +kernel
theorem dX8_lines_39 : decode cX8_lines 39 = .ok (.istore_n 3, 1) := by decide +kernel
theorem dX8_lines_40 : decode cX8_lines 40 = .ok (.iload_n 3, 1) := by decide +kernel
theorem dX8_lines_41 : decode cX8_lines 41 = .ok (.iload_n 1, 1) := by decide +kernel
theorem dX8_lines_42 : decode cX8_lines 42 = .ok (.if_icmp .ge 78, 3) := by decide +kernel
theorem dX8_lines_45 : decode cX8_lines 45 = .ok (.aload_n 0, 1) := by decide +kernel
theorem dX8_lines_46 : decode cX8_lines 46 = .ok (.getfield 29, 3) := by decide +kernel
theorem dX8_lines_49 : decode cX8_lines 49 = .ok (.iload_n 2, 1) := by decide +kernel
theorem dX8_lines_50 : decode cX8_lines 50 = .ok (.iaload, 1) := by decide +kernel
theorem dX8_lines_51 : decode cX8_lines 51 = .ok (.aload_n 0, 1) := by decide +kernel
theorem dX8_lines_52 : decode cX8_lines 52 = .ok (.getfield 29, 3) := by decide +kernel
theorem dX8_lines_55 : decode cX8_lines 55 = .ok (.iload_n 3, 1) := by decide +kernel
theorem dX8_lines_56 : decode cX8_lines 56 = .ok (.iaload, 1) := by decide +kernel
theorem dX8_lines_57 : decode cX8_lines 57 = .ok (.if_icmp .eq 48, 3) := by decide +kernel
theorem dX8_lines_60 : decode cX8_lines 60 = .ok (.aload_n 0, 1) := by decide +kernel
theorem dX8_lines_61 : decode cX8_lines 61 = .ok (.getfield 29, 3) := by decide +kernel
theorem dX8_lines_64 : decode cX8_lines 64 = .ok (.iload_n 2, 1) := by decide +kernel
theorem dX8_lines_65 : decode cX8_lines 65 = .ok (.iaload, 1) := by decide +kernel
theorem dX8_lines_66 : decode cX8_lines 66 = .ok (.aload_n 0, 1) := by decide +kernel
theorem dX8_lines_67 : decode cX8_lines 67 = .ok (.getfield 33, 3) := by decide +kernel
theorem dX8_lines_70 : decode cX8_lines 70 = .ok (.iload_n 3, 1) := by decide +kernel
theorem dX8_lines_71 : decode cX8_lines 71 = .ok (.iaload, 1) := by decide +kernel
theorem dX8_lines_72 : decode cX8_lines 72 = .ok (.if_icmp .eq 33, 3) := by decide +kernel
theorem dX8_lines_75 : decode cX8_lines 75 = .ok (.aload_n 0, 1) := by decide +kernel
theorem dX8_lines_76 : decode cX8_lines 76 = .ok (.getfield 33, 3) := by decide +kernel
theorem dX8_lines_79 : decode cX8_lines 79 = .ok (.iload_n 2, 1) := by decide +kernel
theorem dX8_lines_80 : decode cX8_lines 80 = .ok (.iaload, 1) := by decide +kernel
theorem dX8_lines_81 : decode cX8_lines 81 = .ok (.aload_n 0, 1) := by decide +kernel
theorem dX8_lines_82 : decode cX8_lines 82 = .ok (.getfield 29, 3) := by decide +kernel
theorem dX8_lines_85 : decode cX8_lines 85 = .ok (.iload_n 3, 1) := by decide +kernel
theorem dX8_lines_86 : decode cX8_lines 86 = .ok (.iaload, 1) := by decide +kernel
theorem dX8_lines_87 : decode cX8_lines 87 = .ok (.if_icmp .eq 18, 3) := by decide +kernel
theorem dX8_lines_90 : decode cX8_lines 90 = .ok (.aload_n 0, 1) := by decide +kernel
theorem dX8_lines_91 : decode cX8_lines 91 = .ok (.getfield 33, 3) := by decide +kernel
theorem dX8_lines_94 : decode cX8_lines 94 = .ok (.iload_n 2, 1) := by decide +kernel
theorem dX8_lines_95 : decode cX8_lines 95 = .ok (.iaload, 1) := by decide +kernel
theorem dX8_lines_96 : decode cX8_lines 96 = .ok (.aload_n 0, 1) := by decide +kernel
theorem dX8_lines_97 : decode cX8_lines 97 = .ok (.getfield 33, 3) := by decide +kernel
theorem dX8_lines_100 : decode cX8_lines 100 = .ok (.iload_n 3, 1) := by decide +kernel
theorem dX8_lines_101 : decode cX8_lines 101 = .ok (.iaload, 1) := by decide +kernel
theorem dX8_lines_102 : decode cX8_lines 102 = .ok (.if_icmp .ne 12, 3) := by decide +kernel
theorem dX8_lines_105 : decode cX8_lines 105 = .ok (.aload_n 0, 1) := by decide +kernel
theorem dX8_lines_106 : decode cX8_lines 106 = .ok (.getfield 23, 3) := by decide +kernel
theorem dX8_lines_109 : decode cX8_lines 109 = .ok (.iload_n 2, 1) := by decide +kernel
theorem dX8_lines_110 : decode cX8_lines 110 = .ok (.iload_n 3, 1) := by decide +kernel
theorem dX8_lines_111 : decode cX8_lines 111 = .ok (.invokevirtual 110, 3) := by decide +kernel
theorem dX8_lines_114 : decode cX8_lines 114 = .ok (.iinc 3 1, 3) := by decide +kernel
theorem dX8_lines_117 : decode cX8_lines 117 = .ok (.goto (-77), 3) := by decide +kernel
theorem dX8_lines_120 : decode cX8_lines 120 = .ok (.iinc 2 1, 3) := by decide +kernel
theorem dX8_lines_123 : decode cX8_lines 123 = .ok (.goto (-92), 3) := by decide +kernel
theorem dX8_lines_126 : decode cX8_lines 126 = .ok (.aload_n 0, 1) := by decide +kernel
theorem dX8_lines_127 : decode cX8_lines 127 = .ok (.invokevirtual 141, 3) := by decide +kernel
theorem dX8_lines_130 : decode cX8_lines 130 = .ok (.ireturn, 1) := by decide +kernel
set_option maxRecDepth 20000 in
theorem ggX8_keep_X2_copyFrom : GoodIn wsX8_keep wsX2_copyFrom := goodIn_r _ [8, 9, 10, 11, 12, 13, 14, 28, 29] (by decide +kernel) (by decide +kernel)
set_option maxRecDepth 20000 in
theorem gX8_keep_X2_copyFrom : GoodIn wsX8_keep (wsV RX8 281 RX2 yX2_copyFrom wsX2_copyFrom) := goodIn_app (goodIn_of _ (by decide +kernel)) ggX8_keep_X2_copyFrom
theorem dX8_keep_0 : decode cX8_keep 0 = .ok (.aload_n 0, 1) := by decide +kernel
theorem dX8_keep_1 : decode cX8_keep 1 = .ok (.getfield 26, 3) := by decide +kernel
theorem dX8_keep_4 : decode cX8_keep 4 = .ok (.aload_n 0, 1) := by decide +kernel
theorem dX8_keep_5 : decode cX8_keep 5 = .ok (.getfield 19, 3) := by decide +kernel
theorem dX8_keep_8 : decode cX8_keep 8 = .ok (.invokevirtual 281, 3) := by decide +kernel
theorem dX8_keep_11 : decode cX8_keep 11 = .ok (.aload_n 0, 1) := by decide +kernel
theorem dX8_keep_12 : decode cX8_keep 12 = .ok (.iconst 1, 1) := by decide +kernel
theorem dX8_keep_13 : decode cX8_keep 13 = .ok (.putfield 285, 3) := by decide +kernel
theorem dX8_keep_16 : decode cX8_keep 16 = .ok (.iconst 1, 1) := by decide +kernel
theorem dX8_keep_17 : decode cX8_keep 17 = .ok (.ireturn, 1) := by decide +kernel
set_option maxRecDepth 20000 in
theorem ggX8_back_X2_copyFrom : GoodIn wsX8_back wsX2_copyFrom := goodIn_r _ [8, 9, 10, 11, 12, 13, 14, 41, 42] (by decide +kernel) (by decide +kernel)
set_option maxRecDepth 20000 in
theorem gX8_back_X2_copyFrom : GoodIn wsX8_back (wsV RX8 281 RX2 yX2_copyFrom wsX2_copyFrom) := goodIn_app (goodIn_of _ (by decide +kernel)) ggX8_back_X2_copyFrom
set_option maxRecDepth 20000 in
theorem ggX8_back_X8_forget : GoodIn wsX8_back wsX8_forget := goodIn_r _ [19, 20, 21, 22, 23, 24, 25, 26, 27, 28, 29, 30, 31, 32, 33, 34, 35, 36, 37, 38, 39, 40, 43, 44, 45, 46, 47, 48, 49, 50, 51, 52, 53, 54, 55, 56, 57, 58, 59, 60, 61, 62, 63, 64, 65, 66, 67, 68, 69, 70, 71, 72, 73] (by decide +kernel) (by decide +kernel)
set_option maxRecDepth 20000 in
theorem gX8_back_X8_forget : GoodIn wsX8_back (wsV RX8 100 RX8 yX8_forget wsX8_forget) := goodIn_app (goodIn_of _ (by decide +kernel)) ggX8_back_X8_forget
theorem dX8_back_0 : decode cX8_back 0 = .ok (.aload_n 0, 1) := by decide +kernel
theorem dX8_back_1 : decode cX8_back 1 = .ok (.getfield 285, 3) := by decide +kernel
theorem dX8_back_4 : decode cX8_back 4 = .ok (.ifCond .ne 6, 3) := by decide +kernel
theorem dX8_back_7 : decode cX8_back 7 = .ok (.bipush (-5), 2) := by decide +kernel
theorem dX8_back_9 : decode cX8_back 9 = .ok (.ireturn, 1) := by decide +kernel
theorem dX8_back_10 : decode cX8_back 10 = .ok (.aload_n 0, 1) := by decide +kernel
theorem dX8_back_11 : decode cX8_back 11 = .ok (.getfield 19, 3) := by decide +kernel
theorem dX8_back_14 : decode cX8_back 14 = .ok (.aload_n 0, 1) := by decide +kernel
theorem dX8_back_15 : decode cX8_back 15 = .ok (.getfield 26, 3) := by decide +kernel
theorem dX8_back_18 : decode cX8_back 18 = .ok (.invokevirtual 281, 3) := by decide +kernel
theorem dX8_back_21 : decode cX8_back 21 = .ok (.aload_n 0, 1) := by decide +kernel
theorem dX8_back_22 : decode cX8_back 22 = .ok (.invokevirtual 100, 3) := by decide +kernel
theorem dX8_back_25 : decode cX8_back 25 = .ok (.iconst 1, 1) := by decide +kernel
theorem dX8_back_26 : decode cX8_back 26 = .ok (.ireturn, 1) := by decide +kernel
set_option maxRecDepth 20000 in
theorem ggX8_perfect_X8_measure : GoodIn wsX8_perfect wsX8_measure := goodIn_r _ [11, 5, 12, 1, 13, 14, 15, 16, 17, 18, 19, 20, 21, 22, 23, 24, 25, 26, 27, 28, 29, 30, 31, 32, 33, 34, 35, 36, 37, 38, 39, 40, 41, 42, 10, 43, 44, 45, 46, 47, 48, 49, 50, 51, 52, 90, 91, 92, 93, 94, 95, 96, 97, 98, 99, 100, 101, 102, 111, 112, 113, 114, 115, 116, 117, 103, 104] (by decide +kernel) (by decide +kernel)
set_option maxRecDepth 20000 in
theorem gX8_perfect_X8_measure : GoodIn wsX8_perfect (wsV RX8 145 RX8 yX8_measure wsX8_measure) := goodIn_app (goodIn_of _ (by decide +kernel)) ggX8_perfect_X8_measure
set_option maxRecDepth 20000 in
theorem ggX8_perfect_X4_run : GoodIn wsX8_perfect wsX4_run := goodIn_r _ [57, 58, 59, 60, 61, 62, 63, 64, 16, 65, 66, 67, 68, 69, 21, 70, 71, 72, 56, 73, 74, 75, 76, 51, 10, 52, 77, 78, 79, 80, 81, 82, 83, 84, 85, 86, 87, 88, 89, 42, 43, 105, 106, 107, 108, 109, 110, 111, 112, 113, 114, 115, 116, 117] (by decide +kernel) (by decide +kernel)
set_option maxRecDepth 20000 in
theorem gX8_perfect_X4_run : GoodIn wsX8_perfect (wsV RX8 291 RX4 yX4_run wsX4_run) := goodIn_app (goodIn_of _ (by decide +kernel)) ggX8_perfect_X4_run
theorem dX8_perfect_0 : decode cX8_perfect 0 = .ok (.iload_n 1, 1) := by decide +kernel
theorem dX8_perfect_1 : decode cX8_perfect 1 = .ok (.ifCond .lt 9, 3) := by decide +kernel
theorem dX8_perfect_4 : decode cX8_perfect 4 = .ok (.iload_n 1, 1) := by decide +kernel
theorem dX8_perfect_5 : decode cX8_perfect 5 = .ok (.bipush 6, 2) := by decide +kernel
theorem dX8_perfect_7 : decode cX8_perfect 7 = .ok (.if_icmp .le 5, 3) := by decide +kernel
theorem dX8_perfect_10 : decode cX8_perfect 10 = .ok (.iconst (-1), 1) := by decide +kernel
theorem dX8_perfect_11 : decode cX8_perfect 11 = .ok (.ireturn, 1) := by decide +kernel
theorem dX8_perfect_12 : decode cX8_perfect 12 = .ok (.aload_n 0, 1) := by decide +kernel
theorem dX8_perfect_13 : decode cX8_perfect 13 = .ok (.getfield 19, 3) := by decide +kernel
theorem dX8_perfect_16 : decode cX8_perfect 16 = .ok (.getfield 152, 3) := by decide +kernel
theorem dX8_perfect_19 : decode cX8_perfect 19 = .ok (.ifCond .ne 6, 3) := by decide +kernel
theorem dX8_perfect_22 : decode cX8_perfect 22 = .ok (.bipush (-5), 2) := by decide +kernel
theorem dX8_perfect_24 : decode cX8_perfect 24 = .ok (.ireturn, 1) := by decide +kernel
theorem dX8_perfect_25 : decode cX8_perfect 25 = .ok (.aload_n 0, 1) := by decide +kernel
theorem dX8_perfect_26 : decode cX8_perfect 26 = .ok (.getfield 67, 3) := by decide +kernel
theorem dX8_perfect_29 : decode cX8_perfect 29 = .ok (.getfield 288, 3) := by decide +kernel
theorem dX8_perfect_32 : decode cX8_perfect 32 = .ok (.iload_n 1, 1) := by decide +kernel
theorem dX8_perfect_33 : decode cX8_perfect 33 = .ok (.if_icmp .eq 26, 3) := by decide +kernel
theorem dX8_perfect_36 : decode cX8_perfect 36 = .ok (.aload_n 0, 1) := by decide +kernel
theorem dX8_perfect_37 : decode cX8_perfect 37 = .ok (.invokevirtual 145, 3) := by decide +kernel
theorem dX8_perfect_40 : decode cX8_perfect 40 = .ok (.aload_n 0, 1) := by decide +kernel
theorem dX8_perfect_41 : decode cX8_perfect 41 = .ok (.getfield 67, 3) := by decide +kernel
theorem dX8_perfect_44 : decode cX8_perfect 44 = .ok (.aload_n 0, 1) := by decide +kernel
theorem dX8_perfect_45 : decode cX8_perfect 45 = .ok (.getfield 46, 3) := by decide +kernel
theorem dX8_perfect_48 : decode cX8_perfect 48 = .ok (.aload_n 0, 1) := by decide +kernel
theorem dX8_perfect_49 : decode cX8_perfect 49 = .ok (.getfield 19, 3) := by decide +kernel
theorem dX8_perfect_52 : decode cX8_perfect 52 = .ok (.getfield 152, 3) := by decide +kernel
theorem dX8_perfect_55 : decode cX8_perfect 55 = .ok (.iload_n 1, 1) := by decide +kernel
theorem dX8_perfect_56 : decode cX8_perfect 56 = .ok (.invokevirtual 291, 3) := by decide +kernel
theorem dX8_perfect_59 : decode cX8_perfect 59 = .ok (.aload_n 0, 1) := by decide +kernel
theorem dX8_perfect_60 : decode cX8_perfect 60 = .ok (.getfield 67, 3) := by decide +kernel
theorem dX8_perfect_63 : decode cX8_perfect 63 = .ok (.getfield 295, 3) := by decide +kernel
theorem dX8_perfect_66 : decode cX8_perfect 66 = .ok (.ireturn, 1) := by decide +kernel
set_option maxRecDepth 20000 in
theorem ggX8_heap_X8_perfect : GoodIn wsX8_heap wsX8_perfect := goodIn_r _ [7, 8, 9, 1, 10, 11, 12, 13, 14, 15, 6, 16, 17, 18, 19, 20, 21, 22, 23, 24, 25, 26, 27, 28, 29, 30, 31, 32, 33, 34, 35, 36, 37, 38, 39, 40, 41, 42, 43, 44, 45, 46, 47, 48, 49, 50, 51, 52, 53, 54, 55, 56, 57, 58, 59, 60, 61, 62, 63, 64, 65, 66, 67, 68, 69, 70, 71, 72, 73, 74, 75, 76, 77, 78, 79, 80, 81, 82, 83, 84, 85, 86, 87, 88, 89, 90, 91, 92, 93, 94, 95, 96, 97, 98, 99, 100, 101, 102, 103, 104, 105, 106, 107, 114, 115, 108, 109, 110, 111, 112, 113, 116, 117, 118, 119, 120, 121, 122] (by decide +kernel) (by decide +kernel)
set_option maxRecDepth 20000 in
theorem gX8_heap_X8_perfect : GoodIn wsX8_heap (wsV RX8 298 RX8 yX8_perfect wsX8_perfect) := goodIn_app (goodIn_of _ (by decide +kernel)) ggX8_heap_X8_perfect
theorem dX8_heap_0 : decode cX8_heap 0 = .ok (.aload_n 0, 1) := by decide +kernel
theorem dX8_heap_1 : decode cX8_heap 1 = .ok (.iload_n 1, 1) := by decide +kernel
theorem dX8_heap_2 : decode cX8_heap 2 = .ok (.invokevirtual 298, 3) := by decide +kernel
theorem dX8_heap_5 : decode cX8_heap 5 = .ok (.istore_n 3, 1) := by decide +kernel
theorem dX8_heap_6 : decode cX8_heap 6 = .ok (.iload_n 3, 1) := by decide +kernel
theorem dX8_heap_7 : decode cX8_heap 7 = .ok (.ifCond .ge 5, 3) := by decide +kernel
theorem dX8_heap_10 : decode cX8_heap 10 = .ok (.iload_n 3, 1) := by decide +kernel
theorem dX8_heap_11 : decode cX8_heap 11 = .ok (.ireturn, 1) := by decide +kernel
theorem dX8_heap_12 : decode cX8_heap 12 = .ok (.iload_n 2, 1) := by decide +kernel
theorem dX8_heap_13 : decode cX8_heap 13 = .ok (.ifCond .lt 8, 3) := by decide +kernel
theorem dX8_heap_16 : decode cX8_heap 16 = .ok (.iload_n 2, 1) := by decide +kernel
theorem dX8_heap_17 : decode cX8_heap 17 = .ok (.iload_n 3, 1) := by decide +kernel
theorem dX8_heap_18 : decode cX8_heap 18 = .ok (.if_icmp .lt 8, 3) := by decide +kernel
theorem dX8_heap_21 : decode cX8_heap 21 = .ok (.bipush (-8), 2) := by decide +kernel
theorem dX8_heap_23 : decode cX8_heap 23 = .ok (.goto 12, 3) := by decide +kernel
theorem dX8_heap_26 : decode cX8_heap 26 = .ok (.aload_n 0, 1) := by decide +kernel
theorem dX8_heap_27 : decode cX8_heap 27 = .ok (.getfield 67, 3) := by decide +kernel
theorem dX8_heap_30 : decode cX8_heap 30 = .ok (.getfield 301, 3) := by decide +kernel
theorem dX8_heap_33 : decode cX8_heap 33 = .ok (.iload_n 2, 1) := by decide +kernel
theorem dX8_heap_34 : decode cX8_heap 34 = .ok (.iaload, 1) := by decide +kernel
theorem dX8_heap_35 : decode cX8_heap 35 = .ok (.ireturn, 1) := by decide +kernel
set_option maxRecDepth 20000 in
theorem ggX8_kinds_X3_tellApart : GoodIn wsX8_kinds wsX3_tellApart := goodIn_r _ [8, 9, 10, 11, 12, 13, 14, 15, 7, 16, 17, 18, 19, 20, 21, 22, 23, 24, 25, 26, 27, 28, 29, 30, 31, 32, 33, 34, 35, 36, 37, 38, 39, 40, 41, 42, 43, 44, 45, 46, 47, 48, 49, 50, 51, 52, 53, 54, 55, 56, 57, 58, 59, 60, 61, 62, 63, 64, 65, 66, 67, 68, 69, 70, 71, 72, 73, 74, 75, 76, 77, 78, 92, 93, 94, 95, 96, 97, 98, 99, 100, 101, 102, 103, 104] (by decide +kernel) (by decide +kernel)
set_option maxRecDepth 20000 in
theorem gX8_kinds_X3_tellApart : GoodIn wsX8_kinds (wsV RX8 304 RX3 yX3_tellApart wsX3_tellApart) := goodIn_app (goodIn_of _ (by decide +kernel)) ggX8_kinds_X3_tellApart
theorem dX8_kinds_0 : decode cX8_kinds 0 = .ok (.aload_n 0, 1) := by decide +kernel
theorem dX8_kinds_1 : decode cX8_kinds 1 = .ok (.getfield 74, 3) := by decide +kernel
theorem dX8_kinds_4 : decode cX8_kinds 4 = .ok (.aload_n 0, 1) := by decide +kernel
theorem dX8_kinds_5 : decode cX8_kinds 5 = .ok (.getfield 19, 3) := by decide +kernel
theorem dX8_kinds_8 : decode cX8_kinds 8 = .ok (.invokevirtual 304, 3) := by decide +kernel
theorem dX8_kinds_11 : decode cX8_kinds 11 = .ok (.aload_n 0, 1) := by decide +kernel
theorem dX8_kinds_12 : decode cX8_kinds 12 = .ok (.getfield 74, 3) := by decide +kernel
theorem dX8_kinds_15 : decode cX8_kinds 15 = .ok (.getfield 307, 3) := by decide +kernel
theorem dX8_kinds_18 : decode cX8_kinds 18 = .ok (.ireturn, 1) := by decide +kernel
set_option maxRecDepth 20000 in
theorem ggX8_kind_X2_has : GoodIn wsX8_kind wsX2_has := goodIn_r _ [7, 8, 96, 97] (by decide +kernel) (by decide +kernel)
set_option maxRecDepth 20000 in
theorem gX8_kind_X2_has : GoodIn wsX8_kind (wsV RX8 144 RX2 yX2_has wsX2_has) := goodIn_app (goodIn_of _ (by decide +kernel)) ggX8_kind_X2_has
set_option maxRecDepth 20000 in
theorem ggX8_kind_X3_tellApart : GoodIn wsX8_kind wsX3_tellApart := goodIn_r _ [13, 14, 15, 16, 17, 18, 19, 20, 12, 21, 22, 23, 24, 25, 6, 26, 27, 28, 4, 5, 7, 8, 29, 30, 31, 32, 33, 34, 35, 36, 37, 38, 39, 40, 41, 42, 43, 44, 45, 46, 47, 48, 49, 50, 51, 52, 53, 54, 55, 56, 57, 58, 59, 60, 61, 62, 63, 64, 65, 66, 67, 68, 69, 70, 71, 72, 73, 74, 75, 76, 77, 78, 98, 99, 100, 101, 102, 103, 104, 105, 106, 107, 108, 96, 97] (by decide +kernel) (by decide +kernel)
set_option maxRecDepth 20000 in
theorem gX8_kind_X3_tellApart : GoodIn wsX8_kind (wsV RX8 304 RX3 yX3_tellApart wsX3_tellApart) := goodIn_app (goodIn_of _ (by decide +kernel)) ggX8_kind_X3_tellApart
set_option maxRecDepth 20000 in
theorem ggX8_kind_X3_of : GoodIn wsX8_kind wsX3_of := goodIn_r _ [82, 22, 98, 99, 100, 101, 102, 103, 104, 105, 106, 107, 108] (by decide +kernel) (by decide +kernel)
set_option maxRecDepth 20000 in
theorem gX8_kind_X3_of : GoodIn wsX8_kind (wsV RX8 310 RX3 yX3_of wsX3_of) := goodIn_app (goodIn_of _ (by decide +kernel)) ggX8_kind_X3_of
theorem dX8_kind_0 : decode cX8_kind 0 = .ok (.aload_n 0, 1) := by decide +kernel
theorem dX8_kind_1 : decode cX8_kind 1 = .ok (.getfield 19, 3) := by decide +kernel
theorem dX8_kind_4 : decode cX8_kind 4 = .ok (.iload_n 1, 1) := by decide +kernel
theorem dX8_kind_5 : decode cX8_kind 5 = .ok (.invokevirtual 144, 3) := by decide +kernel
theorem dX8_kind_8 : decode cX8_kind 8 = .ok (.ifCond .eq 14, 3) := by decide +kernel
theorem dX8_kind_11 : decode cX8_kind 11 = .ok (.aload_n 0, 1) := by decide +kernel
theorem dX8_kind_12 : decode cX8_kind 12 = .ok (.getfield 19, 3) := by decide +kernel
theorem dX8_kind_15 : decode cX8_kind 15 = .ok (.iload_n 2, 1) := by decide +kernel
theorem dX8_kind_16 : decode cX8_kind 16 = .ok (.invokevirtual 144, 3) := by decide +kernel
theorem dX8_kind_19 : decode cX8_kind 19 = .ok (.ifCond .ne 5, 3) := by decide +kernel
theorem dX8_kind_22 : decode cX8_kind 22 = .ok (.iconst (-1), 1) := by decide +kernel
theorem dX8_kind_23 : decode cX8_kind 23 = .ok (.ireturn, 1) := by decide +kernel
theorem dX8_kind_24 : decode cX8_kind 24 = .ok (.aload_n 0, 1) := by decide +kernel
theorem dX8_kind_25 : decode cX8_kind 25 = .ok (.getfield 74, 3) := by decide +kernel
theorem dX8_kind_28 : decode cX8_kind 28 = .ok (.aload_n 0, 1) := by decide +kernel
theorem dX8_kind_29 : decode cX8_kind 29 = .ok (.getfield 19, 3) := by decide +kernel
theorem dX8_kind_32 : decode cX8_kind 32 = .ok (.invokevirtual 304, 3) := by decide +kernel
theorem dX8_kind_35 : decode cX8_kind 35 = .ok (.aload_n 0, 1) := by decide +kernel
theorem dX8_kind_36 : decode cX8_kind 36 = .ok (.getfield 74, 3) := by decide +kernel
theorem dX8_kind_39 : decode cX8_kind 39 = .ok (.iload_n 1, 1) := by decide +kernel
theorem dX8_kind_40 : decode cX8_kind 40 = .ok (.iload_n 2, 1) := by decide +kernel
theorem dX8_kind_41 : decode cX8_kind 41 = .ok (.invokevirtual 310, 3) := by decide +kernel
theorem dX8_kind_44 : decode cX8_kind 44 = .ok (.ireturn, 1) := by decide +kernel
theorem dX8_isSheet_0 : decode cX8_isSheet 0 = .ok (.iload_n 0, 1) := by decide +kernel
theorem dX8_isSheet_1 : decode cX8_isSheet 1 = .ok (.ifCond .lt 12, 3) := by decide +kernel
theorem dX8_isSheet_4 : decode cX8_isSheet 4 = .ok (.iload_n 0, 1) := by decide +kernel
theorem dX8_isSheet_5 : decode cX8_isSheet 5 = .ok (.iconst 4, 1) := by decide +kernel
theorem dX8_isSheet_6 : decode cX8_isSheet 6 = .ok (.if_icmp .ge 7, 3) := by decide +kernel
theorem dX8_isSheet_9 : decode cX8_isSheet 9 = .ok (.iconst 1, 1) := by decide +kernel
theorem dX8_isSheet_10 : decode cX8_isSheet 10 = .ok (.goto 4, 3) := by decide +kernel
theorem dX8_isSheet_13 : decode cX8_isSheet 13 = .ok (.iconst 0, 1) := by decide +kernel
theorem dX8_isSheet_14 : decode cX8_isSheet 14 = .ok (.ireturn, 1) := by decide +kernel
set_option maxRecDepth 20000 in
theorem ggX8_mayLoad_X5_read : GoodIn wsX8_mayLoad wsX5_read := goodIn_r _ [8, 9, 10, 11, 12, 7, 13, 14, 25, 26, 27, 28] (by decide +kernel) (by decide +kernel)
set_option maxRecDepth 20000 in
theorem gX8_mayLoad_X5_read : GoodIn wsX8_mayLoad (wsV RX8 124 RX5 yX5_read wsX5_read) := goodIn_app (goodIn_of _ (by decide +kernel)) ggX8_mayLoad_X5_read
set_option maxRecDepth 20000 in
theorem ggX8_mayLoad_X2_mayJoin : GoodIn wsX8_mayLoad wsX2_mayJoin := goodIn_r _ [19, 20, 21, 22, 18, 23, 24, 42, 43] (by decide +kernel) (by decide +kernel)
set_option maxRecDepth 20000 in
theorem gX8_mayLoad_X2_mayJoin : GoodIn wsX8_mayLoad (wsV RX8 103 RX2 yX2_mayJoin wsX2_mayJoin) := goodIn_app (goodIn_of _ (by decide +kernel)) ggX8_mayLoad_X2_mayJoin
theorem dX8_mayLoad_0 : decode cX8_mayLoad 0 = .ok (.iload_n 2, 1) := by decide +kernel
theorem dX8_mayLoad_1 : decode cX8_mayLoad 1 = .ok (.ifCond .lt 25, 3) := by decide +kernel
theorem dX8_mayLoad_4 : decode cX8_mayLoad 4 = .ok (.iload_n 3, 1) := by decide +kernel
theorem dX8_mayLoad_5 : decode cX8_mayLoad 5 = .ok (.ifCond .lt 21, 3) := by decide +kernel
theorem dX8_mayLoad_8 : decode cX8_mayLoad 8 = .ok (.iload_n 2, 1) := by decide +kernel
theorem dX8_mayLoad_9 : decode cX8_mayLoad 9 = .ok (.i2l, 1) := by decide +kernel
theorem dX8_mayLoad_10 : decode cX8_mayLoad 10 = .ok (.ldc2_w 313, 3) := by decide +kernel
theorem dX8_mayLoad_13 : decode cX8_mayLoad 13 = .ok (.iload_n 3, 1) := by decide +kernel
theorem dX8_mayLoad_14 : decode cX8_mayLoad 14 = .ok (.i2l, 1) := by decide +kernel
theorem dX8_mayLoad_15 : decode cX8_mayLoad 15 = .ok (.lmul, 1) := by decide +kernel
theorem dX8_mayLoad_16 : decode cX8_mayLoad 16 = .ok (.ladd, 1) := by decide +kernel
theorem dX8_mayLoad_17 : decode cX8_mayLoad 17 = .ok (.aload_n 1, 1) := by decide +kernel
theorem dX8_mayLoad_18 : decode cX8_mayLoad 18 = .ok (.getfield 315, 3) := by decide +kernel
theorem dX8_mayLoad_21 : decode cX8_mayLoad 21 = .ok (.i2l, 1) := by decide +kernel
theorem dX8_mayLoad_22 : decode cX8_mayLoad 22 = .ok (.lcmp, 1) := by decide +kernel
theorem dX8_mayLoad_23 : decode cX8_mayLoad 23 = .ok (.ifCond .le 5, 3) := by decide +kernel
theorem dX8_mayLoad_26 : decode cX8_mayLoad 26 = .ok (.iconst 0, 1) := by decide +kernel
theorem dX8_mayLoad_27 : decode cX8_mayLoad 27 = .ok (.ireturn, 1) := by decide +kernel
theorem dX8_mayLoad_28 : decode cX8_mayLoad 28 = .ok (.iconst 0, 1) := by decide +kernel
theorem dX8_mayLoad_29 : decode cX8_mayLoad 29 = .ok (.istore 4, 2) := by decide +kernel
theorem dX8_mayLoad_31 : decode cX8_mayLoad 31 = .ok (.iload 4, 2) := by decide +kernel
theorem dX8_mayLoad_33 : decode cX8_mayLoad 33 = .ok (.iload_n 3, 1) := by decide +kernel
theorem dX8_mayLoad_34 : decode cX8_mayLoad 34 = .ok (.if_icmp .ge 43, 3) := by decide +kernel
theorem dX8_mayLoad_37 : decode cX8_mayLoad 37 = .ok (.iload_n 2, 1) := by decide +kernel
theorem dX8_mayLoad_38 : decode cX8_mayLoad 38 = .ok (.iconst 2, 1) := by decide +kernel
theorem dX8_mayLoad_39 : decode cX8_mayLoad 39 = .ok (.iload 4, 2) := by decide +kernel
theorem dX8_mayLoad_41 : decode cX8_mayLoad 41 = .ok (.imul, 1) := by decide +kernel
theorem dX8_mayLoad_42 : decode cX8_mayLoad 42 = .ok (.iadd, 1) := by decide +kernel
theorem dX8_mayLoad_43 : decode cX8_mayLoad 43 = .ok (.istore 5, 2) := by decide +kernel
theorem dX8_mayLoad_45 : decode cX8_mayLoad 45 = .ok (.aload_n 0, 1) := by decide +kernel
theorem dX8_mayLoad_46 : decode cX8_mayLoad 46 = .ok (.getfield 19, 3) := by decide +kernel
theorem dX8_mayLoad_49 : decode cX8_mayLoad 49 = .ok (.aload_n 1, 1) := by decide +kernel
theorem dX8_mayLoad_50 : decode cX8_mayLoad 50 = .ok (.iload 5, 2) := by decide +kernel
theorem dX8_mayLoad_52 : decode cX8_mayLoad 52 = .ok (.invokevirtual 124, 3) := by decide +kernel
theorem dX8_mayLoad_55 : decode cX8_mayLoad 55 = .ok (.aload_n 1, 1) := by decide +kernel
theorem dX8_mayLoad_56 : decode cX8_mayLoad 56 = .ok (.iload 5, 2) := by decide +kernel
theorem dX8_mayLoad_58 : decode cX8_mayLoad 58 = .ok (.iconst 1, 1) := by decide +kernel
theorem dX8_mayLoad_59 : decode cX8_mayLoad 59 = .ok (.iadd, 1) := by decide +kernel
theorem dX8_mayLoad_60 : decode cX8_mayLoad 60 = .ok (.invokevirtual 124, 3) := by decide +kernel
theorem dX8_mayLoad_63 : decode cX8_mayLoad 63 = .ok (.invokevirtual 103, 3) := by decide +kernel
theorem dX8_mayLoad_66 : decode cX8_mayLoad 66 = .ok (.ifCond .ne 5, 3) := by decide +kernel
theorem dX8_mayLoad_69 : decode cX8_mayLoad 69 = .ok (.iconst 0, 1) := by decide +kernel
theorem dX8_mayLoad_70 : decode cX8_mayLoad 70 = .ok (.ireturn, 1) := by decide +kernel
theorem dX8_mayLoad_71 : decode cX8_mayLoad 71 = .ok (.iinc 4 1, 3) := by decide +kernel
theorem dX8_mayLoad_74 : decode cX8_mayLoad 74 = .ok (.goto (-43), 3) := by decide +kernel
theorem dX8_mayLoad_77 : decode cX8_mayLoad 77 = .ok (.iconst 1, 1) := by decide +kernel
theorem dX8_mayLoad_78 : decode cX8_mayLoad 78 = .ok (.ireturn, 1) := by decide +kernel
set_option maxRecDepth 20000 in
theorem ggX8_listRoads_X2_areJoined : GoodIn wsX8_listRoads wsX2_areJoined := goodIn_r _ [9, 10, 11, 12, 13, 8, 14, 15, 16, 17, 18, 32, 33] (by decide +kernel) (by decide +kernel)
set_option maxRecDepth 20000 in
theorem gX8_listRoads_X2_areJoined : GoodIn wsX8_listRoads (wsV RX8 107 RX2 yX2_areJoined wsX2_areJoined) := goodIn_app (goodIn_of _ (by decide +kernel)) ggX8_listRoads_X2_areJoined
theorem dX8_listRoads_0 : decode cX8_listRoads 0 = .ok (.iconst 0, 1) := by decide +kernel
theorem dX8_listRoads_1 : decode cX8_listRoads 1 = .ok (.istore_n 1, 1) := by decide +kernel
theorem dX8_listRoads_2 : decode cX8_listRoads 2 = .ok (.iconst 0, 1) := by decide +kernel
theorem dX8_listRoads_3 : decode cX8_listRoads 3 = .ok (.istore_n 2, 1) := by decide +kernel
theorem dX8_listRoads_4 : decode cX8_listRoads 4 = .ok (.iload_n 2, 1) := by decide +kernel
theorem dX8_listRoads_5 : decode cX8_listRoads 5 = .ok (.aload_n 0, 1) := by decide +kernel
theorem dX8_listRoads_6 : decode cX8_listRoads 6 = .ok (.getfield 19, 3) := by decide +kernel
theorem dX8_listRoads_9 : decode cX8_listRoads 9 = .ok (.getfield 152, 3) := by decide +kernel
theorem dX8_listRoads_12 : decode cX8_listRoads 12 = .ok (.if_icmp .ge 65, 3) := by decide +kernel
theorem dX8_listRoads_15 : decode cX8_listRoads 15 = .ok (.iload_n 2, 1) := by decide +kernel
theorem dX8_listRoads_16 : decode cX8_listRoads 16 = .ok (.iconst 1, 1) := by decide +kernel
theorem dX8_listRoads_17 : decode cX8_listRoads 17 = .ok (.iadd, 1) := by decide +kernel
theorem dX8_listRoads_18 : decode cX8_listRoads 18 = .ok (.istore_n 3, 1) := by decide +kernel
theorem dX8_listRoads_19 : decode cX8_listRoads 19 = .ok (.iload_n 3, 1) := by decide +kernel
theorem dX8_listRoads_20 : decode cX8_listRoads 20 = .ok (.aload_n 0, 1) := by decide +kernel
theorem dX8_listRoads_21 : decode cX8_listRoads 21 = .ok (.getfield 19, 3) := by decide +kernel
theorem dX8_listRoads_24 : decode cX8_listRoads 24 = .ok (.getfield 152, 3) := by decide +kernel
theorem dX8_listRoads_27 : decode cX8_listRoads 27 = .ok (.if_icmp .ge 44, 3) := by decide +kernel
theorem dX8_listRoads_30 : decode cX8_listRoads 30 = .ok (.aload_n 0, 1) := by decide +kernel
theorem dX8_listRoads_31 : decode cX8_listRoads 31 = .ok (.getfield 19, 3) := by decide +kernel
theorem dX8_listRoads_34 : decode cX8_listRoads 34 = .ok (.iload_n 2, 1) := by decide +kernel
theorem dX8_listRoads_35 : decode cX8_listRoads 35 = .ok (.iload_n 3, 1) := by decide +kernel
theorem dX8_listRoads_36 : decode cX8_listRoads 36 = .ok (.invokevirtual 107, 3) := by decide +kernel
theorem dX8_listRoads_39 : decode cX8_listRoads 39 = .ok (.ifCond .eq 26, 3) := by decide +kernel
theorem dX8_listRoads_42 : decode cX8_listRoads 42 = .ok (.iload_n 1, 1) := by decide +kernel
theorem dX8_listRoads_43 : decode cX8_listRoads 43 = .ok (.bipush 32, 2) := by decide +kernel
theorem dX8_listRoads_45 : decode cX8_listRoads 45 = .ok (.if_icmp .ge 20, 3) := by decide +kernel
theorem dX8_listRoads_48 : decode cX8_listRoads 48 = .ok (.aload_n 0, 1) := by decide +kernel
theorem dX8_listRoads_49 : decode cX8_listRoads 49 = .ok (.getfield 29, 3) := by decide +kernel
theorem dX8_listRoads_52 : decode cX8_listRoads 52 = .ok (.iload_n 1, 1) := by decide +kernel
theorem dX8_listRoads_53 : decode cX8_listRoads 53 = .ok (.iload_n 2, 1) := by decide +kernel
theorem dX8_listRoads_54 : decode cX8_listRoads 54 = .ok (.iastore, 1) := by decide +kernel
theorem dX8_listRoads_55 : decode cX8_listRoads 55 = .ok (.aload_n 0, 1) := by decide +kernel
theorem dX8_listRoads_56 : decode cX8_listRoads 56 = .ok (.getfield 33, 3) := by decide +kernel
theorem dX8_listRoads_59 : decode cX8_listRoads 59 = .ok (.iload_n 1, 1) := by decide +kernel
theorem dX8_listRoads_60 : decode cX8_listRoads 60 = .ok (.iload_n 3, 1) := by decide +kernel
theorem dX8_listRoads_61 : decode cX8_listRoads 61 = .ok (.iastore, 1) := by decide +kernel
theorem dX8_listRoads_62 : decode cX8_listRoads 62 = .ok (.iinc 1 1, 3) := by decide +kernel
theorem dX8_listRoads_65 : decode cX8_listRoads 65 = .ok (.iinc 3 1, 3) := by decide +kernel
theorem dX8_listRoads_68 : decode cX8_listRoads 68 = .ok (.goto (-49), 3) := by decide +kernel
theorem dX8_listRoads_71 : decode cX8_listRoads 71 = .ok (.iinc 2 1, 3) := by decide +kernel
theorem dX8_listRoads_74 : decode cX8_listRoads 74 = .ok (.goto (-70), 3) := by decide +kernel
theorem dX8_listRoads_77 : decode cX8_listRoads 77 = .ok (.return_, 1) := by decide +kernel
set_option maxRecDepth 20000 in
theorem ggX8_adopt_X2_copyFrom : GoodIn wsX8_adopt wsX2_copyFrom := goodIn_r _ [8, 9, 10, 11, 12, 13, 14, 41, 42] (by decide +kernel) (by decide +kernel)
set_option maxRecDepth 20000 in
theorem gX8_adopt_X2_copyFrom : GoodIn wsX8_adopt (wsV RX8 281 RX2 yX2_copyFrom wsX2_copyFrom) := goodIn_app (goodIn_of _ (by decide +kernel)) ggX8_adopt_X2_copyFrom
set_option maxRecDepth 20000 in
theorem ggX8_adopt_X8_forget : GoodIn wsX8_adopt wsX8_forget := goodIn_r _ [19, 20, 21, 22, 23, 24, 25, 26, 27, 28, 29, 30, 31, 32, 33, 34, 35, 36, 37, 38, 39, 40, 43, 44, 45, 46, 47, 48, 49, 50, 51, 52, 53, 54, 55, 56, 57, 58, 59, 60, 61, 62, 63, 64, 65, 66, 67, 68, 69, 70, 71, 72, 73] (by decide +kernel) (by decide +kernel)
set_option maxRecDepth 20000 in
theorem gX8_adopt_X8_forget : GoodIn wsX8_adopt (wsV RX8 100 RX8 yX8_forget wsX8_forget) := goodIn_app (goodIn_of _ (by decide +kernel)) ggX8_adopt_X8_forget
theorem dX8_adopt_0 : decode cX8_adopt 0 = .ok (.aload_n 0, 1) := by decide +kernel
theorem dX8_adopt_1 : decode cX8_adopt 1 = .ok (.getfield 19, 3) := by decide +kernel
theorem dX8_adopt_4 : decode cX8_adopt 4 = .ok (.aload_n 0, 1) := by decide +kernel
theorem dX8_adopt_5 : decode cX8_adopt 5 = .ok (.getfield 23, 3) := by decide +kernel
theorem dX8_adopt_8 : decode cX8_adopt 8 = .ok (.invokevirtual 281, 3) := by decide +kernel
theorem dX8_adopt_11 : decode cX8_adopt 11 = .ok (.aload_n 0, 1) := by decide +kernel
theorem dX8_adopt_12 : decode cX8_adopt 12 = .ok (.invokevirtual 100, 3) := by decide +kernel
theorem dX8_adopt_15 : decode cX8_adopt 15 = .ok (.aload_n 0, 1) := by decide +kernel
theorem dX8_adopt_16 : decode cX8_adopt 16 = .ok (.getfield 19, 3) := by decide +kernel
theorem dX8_adopt_19 : decode cX8_adopt 19 = .ok (.getfield 152, 3) := by decide +kernel
theorem dX8_adopt_22 : decode cX8_adopt 22 = .ok (.ireturn, 1) := by decide +kernel
theorem dX8_forget_0 : decode cX8_forget 0 = .ok (.aload_n 0, 1) := by decide +kernel
theorem dX8_forget_1 : decode cX8_forget 1 = .ok (.getfield 46, 3) := by decide +kernel
theorem dX8_forget_4 : decode cX8_forget 4 = .ok (.iconst 0, 1) := by decide +kernel
theorem dX8_forget_5 : decode cX8_forget 5 = .ok (.putfield 316, 3) := by decide +kernel
theorem dX8_forget_8 : decode cX8_forget 8 = .ok (.aload_n 0, 1) := by decide +kernel
theorem dX8_forget_9 : decode cX8_forget 9 = .ok (.getfield 53, 3) := by decide +kernel
theorem dX8_forget_12 : decode cX8_forget 12 = .ok (.iconst 0, 1) := by decide +kernel
theorem dX8_forget_13 : decode cX8_forget 13 = .ok (.putfield 319, 3) := by decide +kernel
theorem dX8_forget_16 : decode cX8_forget 16 = .ok (.aload_n 0, 1) := by decide +kernel
theorem dX8_forget_17 : decode cX8_forget 17 = .ok (.getfield 74, 3) := by decide +kernel
theorem dX8_forget_20 : decode cX8_forget 20 = .ok (.iconst 0, 1) := by decide +kernel
theorem dX8_forget_21 : decode cX8_forget 21 = .ok (.putfield 320, 3) := by decide +kernel
theorem dX8_forget_24 : decode cX8_forget 24 = .ok (.aload_n 0, 1) := by decide +kernel
theorem dX8_forget_25 : decode cX8_forget 25 = .ok (.getfield 67, 3) := by decide +kernel
theorem dX8_forget_28 : decode cX8_forget 28 = .ok (.iconst (-1), 1) := by decide +kernel
theorem dX8_forget_29 : decode cX8_forget 29 = .ok (.putfield 288, 3) := by decide +kernel
theorem dX8_forget_32 : decode cX8_forget 32 = .ok (.return_, 1) := by decide +kernel
set_option maxRecDepth 20000 in
theorem ggX8_measure_X7_measure : GoodIn wsX8_measure wsX7_measure := goodIn_r _ [8, 9, 10, 11, 12, 13, 14, 15, 16, 17, 18, 19, 20, 21, 22, 23, 24, 25, 26, 27, 7, 28, 29, 30, 31, 32, 33, 34, 35, 36, 37, 38, 39, 40, 41, 42, 43, 44, 65, 66, 58, 59, 60, 61, 62, 63, 64] (by decide +kernel) (by decide +kernel)
set_option maxRecDepth 20000 in
theorem gX8_measure_X7_measure : GoodIn wsX8_measure (wsV RX8 321 RX7 yX7_measure wsX7_measure) := goodIn_app (goodIn_of _ (by decide +kernel)) ggX8_measure_X7_measure
theorem dX8_measure_0 : decode cX8_measure 0 = .ok (.aload_n 0, 1) := by decide +kernel
theorem dX8_measure_1 : decode cX8_measure 1 = .ok (.getfield 46, 3) := by decide +kernel
theorem dX8_measure_4 : decode cX8_measure 4 = .ok (.getfield 316, 3) := by decide +kernel
theorem dX8_measure_7 : decode cX8_measure 7 = .ok (.ifCond .ne 14, 3) := by decide +kernel
theorem dX8_measure_10 : decode cX8_measure 10 = .ok (.aload_n 0, 1) := by decide +kernel
theorem dX8_measure_11 : decode cX8_measure 11 = .ok (.getfield 46, 3) := by decide +kernel
theorem dX8_measure_14 : decode cX8_measure 14 = .ok (.aload_n 0, 1) := by decide +kernel
theorem dX8_measure_15 : decode cX8_measure 15 = .ok (.getfield 19, 3) := by decide +kernel
theorem dX8_measure_18 : decode cX8_measure 18 = .ok (.invokevirtual 321, 3) := by decide +kernel
theorem dX8_measure_21 : decode cX8_measure 21 = .ok (.return_, 1) := by decide +kernel
set_option maxRecDepth 20000 in
theorem ggX8_isLike_X8_measure : GoodIn wsX8_isLike wsX8_measure := goodIn_r _ [10, 4, 11, 3, 12, 13, 14, 15, 16, 17, 18, 19, 20, 21, 22, 23, 24, 25, 26, 27, 28, 29, 30, 31, 32, 33, 34, 35, 36, 37, 38, 39, 40, 41, 9, 42, 43, 44, 45, 46, 47, 48, 49, 50, 51, 87, 88, 89, 90, 91, 92, 93, 94, 95, 96, 97, 98, 99, 107, 108, 109, 110, 111, 112, 113, 114, 115] (by decide +kernel) (by decide +kernel)
set_option maxRecDepth 20000 in
theorem gX8_isLike_X8_measure : GoodIn wsX8_isLike (wsV RX8 145 RX8 yX8_measure wsX8_measure) := goodIn_app (goodIn_of _ (by decide +kernel)) ggX8_isLike_X8_measure
set_option maxRecDepth 20000 in
theorem ggX8_isLike_X0_look : GoodIn wsX8_isLike wsX0_look := goodIn_r _ [56, 57, 58, 59, 60, 61, 62, 63, 64, 30, 31, 32, 65, 66, 67, 55, 68, 69, 70, 71, 72, 73, 74, 15, 75, 19, 76, 77, 78, 79, 20, 80, 81, 82, 83, 84, 85, 86, 100, 101, 102, 103, 104, 105, 106, 107, 108, 109, 110, 111, 112, 113, 114, 115] (by decide +kernel) (by decide +kernel)
set_option maxRecDepth 20000 in
theorem gX8_isLike_X0_look : GoodIn wsX8_isLike (wsV RX8 323 RX0 yX0_look wsX0_look) := goodIn_app (goodIn_of _ (by decide +kernel)) ggX8_isLike_X0_look
theorem dX8_isLike_0 : decode cX8_isLike 0 = .ok (.aload_n 0, 1) := by decide +kernel
theorem dX8_isLike_1 : decode cX8_isLike 1 = .ok (.getfield 53, 3) := by decide +kernel
theorem dX8_isLike_4 : decode cX8_isLike 4 = .ok (.getfield 319, 3) := by decide +kernel
theorem dX8_isLike_7 : decode cX8_isLike 7 = .ok (.ifCond .ne 22, 3) := by decide +kernel
theorem dX8_isLike_10 : decode cX8_isLike 10 = .ok (.aload_n 0, 1) := by decide +kernel
theorem dX8_isLike_11 : decode cX8_isLike 11 = .ok (.invokevirtual 145, 3) := by decide +kernel
theorem dX8_isLike_14 : decode cX8_isLike 14 = .ok (.aload_n 0, 1) := by decide +kernel
theorem dX8_isLike_15 : decode cX8_isLike 15 = .ok (.getfield 53, 3) := by decide +kernel
theorem dX8_isLike_18 : decode cX8_isLike 18 = .ok (.aload_n 0, 1) := by decide +kernel
theorem dX8_isLike_19 : decode cX8_isLike 19 = .ok (.getfield 19, 3) := by decide +kernel
theorem dX8_isLike_22 : decode cX8_isLike 22 = .ok (.aload_n 0, 1) := by decide +kernel
theorem dX8_isLike_23 : decode cX8_isLike 23 = .ok (.getfield 46, 3) := by decide +kernel
theorem dX8_isLike_26 : decode cX8_isLike 26 = .ok (.invokevirtual 323, 3) := by decide +kernel
theorem dX8_isLike_29 : decode cX8_isLike 29 = .ok (.aload_n 0, 1) := by decide +kernel
theorem dX8_isLike_30 : decode cX8_isLike 30 = .ok (.getfield 53, 3) := by decide +kernel
theorem dX8_isLike_33 : decode cX8_isLike 33 = .ok (.getfield 327, 3) := by decide +kernel
theorem dX8_isLike_36 : decode cX8_isLike 36 = .ok (.ireturn, 1) := by decide +kernel
theorem dX8_oneIf_0 : decode cX8_oneIf 0 = .ok (.iload_n 0, 1) := by decide +kernel
theorem dX8_oneIf_1 : decode cX8_oneIf 1 = .ok (.ifCond .eq 7, 3) := by decide +kernel
theorem dX8_oneIf_4 : decode cX8_oneIf 4 = .ok (.iconst 1, 1) := by decide +kernel
theorem dX8_oneIf_5 : decode cX8_oneIf 5 = .ok (.goto 4, 3) := by decide +kernel
theorem dX8_oneIf_8 : decode cX8_oneIf 8 = .ok (.iconst 0, 1) := by decide +kernel
theorem dX8_oneIf_9 : decode cX8_oneIf 9 = .ok (.ireturn, 1) := by decide +kernel
theorem dX8_allOf_0 : decode cX8_allOf 0 = .ok (.iload_n 0, 1) := by decide +kernel
theorem dX8_allOf_1 : decode cX8_allOf 1 = .ok (.ifCond .gt 7, 3) := by decide +kernel
theorem dX8_allOf_4 : decode cX8_allOf 4 = .ok (.iconst 0, 1) := by decide +kernel
theorem dX8_allOf_5 : decode cX8_allOf 5 = .ok (.goto 9, 3) := by decide +kernel
theorem dX8_allOf_8 : decode cX8_allOf 8 = .ok (.iconst (-1), 1) := by decide +kernel
theorem dX8_allOf_9 : decode cX8_allOf 9 = .ok (.bipush 32, 2) := by decide +kernel
theorem dX8_allOf_11 : decode cX8_allOf 11 = .ok (.iload_n 0, 1) := by decide +kernel
theorem dX8_allOf_12 : decode cX8_allOf 12 = .ok (.isub, 1) := by decide +kernel
theorem dX8_allOf_13 : decode cX8_allOf 13 = .ok (.iushr, 1) := by decide +kernel
theorem dX8_allOf_14 : decode cX8_allOf 14 = .ok (.ireturn, 1) := by decide +kernel
set_option maxRecDepth 20000 in
theorem ggX8_lowestBit_J6_bitCount_0f7a4 : GoodIn wsX8_lowestBit wsJ6_bitCount_0f7a4 := goodIn_r _ [4, 5, 6, 7] (by decide +kernel) (by decide +kernel)
set_option maxRecDepth 20000 in
theorem gX8_lowestBit_J6_bitCount_0f7a4 : GoodIn wsX8_lowestBit (va_wsS RX8 204 yJ6_bitCount_0f7a4 wsJ6_bitCount_0f7a4) := goodIn_app (goodIn_of _ (by decide +kernel)) ggX8_lowestBit_J6_bitCount_0f7a4
theorem dX8_lowestBit_0 : decode cX8_lowestBit 0 = .ok (.iload_n 0, 1) := by decide +kernel
theorem dX8_lowestBit_1 : decode cX8_lowestBit 1 = .ok (.iload_n 0, 1) := by decide +kernel
theorem dX8_lowestBit_2 : decode cX8_lowestBit 2 = .ok (.ineg, 1) := by decide +kernel
theorem dX8_lowestBit_3 : decode cX8_lowestBit 3 = .ok (.iand, 1) := by decide +kernel
theorem dX8_lowestBit_4 : decode cX8_lowestBit 4 = .ok (.iconst 1, 1) := by decide +kernel
theorem dX8_lowestBit_5 : decode cX8_lowestBit 5 = .ok (.isub, 1) := by decide +kernel
theorem dX8_lowestBit_6 : decode cX8_lowestBit 6 = .ok (.invokestatic 204, 3) := by decide +kernel
theorem dX8_lowestBit_9 : decode cX8_lowestBit 9 = .ok (.ireturn, 1) := by decide +kernel
theorem dX8_isIn_0 : decode cX8_isIn 0 = .ok (.iload_n 0, 1) := by decide +kernel
theorem dX8_isIn_1 : decode cX8_isIn 1 = .ok (.iload_n 1, 1) := by decide +kernel
theorem dX8_isIn_2 : decode cX8_isIn 2 = .ok (.iushr, 1) := by decide +kernel
theorem dX8_isIn_3 : decode cX8_isIn 3 = .ok (.iconst 1, 1) := by decide +kernel
theorem dX8_isIn_4 : decode cX8_isIn 4 = .ok (.iand, 1) := by decide +kernel
theorem dX8_isIn_5 : decode cX8_isIn 5 = .ok (.ifCond .eq 7, 3) := by decide +kernel
theorem dX8_isIn_8 : decode cX8_isIn 8 = .ok (.iconst 1, 1) := by decide +kernel
theorem dX8_isIn_9 : decode cX8_isIn 9 = .ok (.goto 4, 3) := by decide +kernel
theorem dX8_isIn_12 : decode cX8_isIn 12 = .ok (.iconst 0, 1) := by decide +kernel
theorem dX8_isIn_13 : decode cX8_isIn 13 = .ok (.ireturn, 1) := by decide +kernel
theorem dX9_init_0 : decode cX9_init 0 = .ok (.aload_n 0, 1) := by decide +kernel
theorem dX9_init_1 : decode cX9_init 1 = .ok (.invokespecial 1, 3) := by decide +kernel
theorem dX9_init_4 : decode cX9_init 4 = .ok (.aload_n 0, 1) := by decide +kernel
theorem dX9_init_5 : decode cX9_init 5 = .ok (.iconst 4, 1) := by decide +kernel
theorem dX9_init_6 : decode cX9_init 6 = .ok (.newarray .int, 2) := by decide +kernel
theorem dX9_init_8 : decode cX9_init 8 = .ok (.putfield 7, 3) := by decide +kernel
theorem dX9_init_11 : decode cX9_init 11 = .ok (.aload_n 0, 1) := by decide +kernel
theorem dX9_init_12 : decode cX9_init 12 = .ok (.iconst 4, 1) := by decide +kernel
theorem dX9_init_13 : decode cX9_init 13 = .ok (.newarray .int, 2) := by decide +kernel
theorem dX9_init_15 : decode cX9_init 15 = .ok (.putfield 13, 3) := by decide +kernel
theorem dX9_init_18 : decode cX9_init 18 = .ok (.aload_n 0, 1) := by decide +kernel
theorem dX9_init_19 : decode cX9_init 19 = .ok (.sipush 240, 3) := by decide +kernel
theorem dX9_init_22 : decode cX9_init 22 = .ok (.newarray .int, 2) := by decide +kernel
theorem dX9_init_24 : decode cX9_init 24 = .ok (.putfield 16, 3) := by decide +kernel
theorem dX9_init_27 : decode cX9_init 27 = .ok (.aload_n 0, 1) := by decide +kernel
theorem dX9_init_28 : decode cX9_init 28 = .ok (.sipush 1024, 3) := by decide +kernel
theorem dX9_init_31 : decode cX9_init 31 = .ok (.newarray .boolean, 2) := by decide +kernel
theorem dX9_init_33 : decode cX9_init 33 = .ok (.putfield 19, 3) := by decide +kernel
theorem dX9_init_36 : decode cX9_init 36 = .ok (.aload_n 0, 1) := by decide +kernel
theorem dX9_init_37 : decode cX9_init 37 = .ok (.sipush 1024, 3) := by decide +kernel
theorem dX9_init_40 : decode cX9_init 40 = .ok (.newarray .boolean, 2) := by decide +kernel
theorem dX9_init_42 : decode cX9_init 42 = .ok (.putfield 23, 3) := by decide +kernel
theorem dX9_init_45 : decode cX9_init 45 = .ok (.aload_n 0, 1) := by decide +kernel
theorem dX9_init_46 : decode cX9_init 46 = .ok (.iconst 1, 1) := by decide +kernel
theorem dX9_init_47 : decode cX9_init 47 = .ok (.putfield 26, 3) := by decide +kernel
theorem dX9_init_50 : decode cX9_init 50 = .ok (.aload_n 0, 1) := by decide +kernel
theorem dX9_init_51 : decode cX9_init 51 = .ok (.bipush 6, 2) := by decide +kernel
theorem dX9_init_53 : decode cX9_init 53 = .ok (.newarray .int, 2) := by decide +kernel
theorem dX9_init_55 : decode cX9_init 55 = .ok (.putfield 30, 3) := by decide +kernel
theorem dX9_init_58 : decode cX9_init 58 = .ok (.aload_n 0, 1) := by decide +kernel
theorem dX9_init_59 : decode cX9_init 59 = .ok (.bipush 6, 2) := by decide +kernel
theorem dX9_init_61 : decode cX9_init 61 = .ok (.newarray .int, 2) := by decide +kernel
theorem dX9_init_63 : decode cX9_init 63 = .ok (.putfield 33, 3) := by decide +kernel
theorem dX9_init_66 : decode cX9_init 66 = .ok (.aload_n 0, 1) := by decide +kernel
theorem dX9_init_67 : decode cX9_init 67 = .ok (.bipush 33, 2) := by decide +kernel
theorem dX9_init_69 : decode cX9_init 69 = .ok (.newarray .int, 2) := by decide +kernel
theorem dX9_init_71 : decode cX9_init 71 = .ok (.putfield 36, 3) := by decide +kernel
theorem dX9_init_74 : decode cX9_init 74 = .ok (.aload_n 0, 1) := by decide +kernel
theorem dX9_init_75 : decode cX9_init 75 = .ok (.sipush 1024, 3) := by decide +kernel
theorem dX9_init_78 : decode cX9_init 78 = .ok (.newarray .int, 2) := by decide +kernel
theorem dX9_init_80 : decode cX9_init 80 = .ok (.putfield 39, 3) := by decide +kernel
theorem dX9_init_83 : decode cX9_init 83 = .ok (.aload_n 0, 1) := by decide +kernel
theorem dX9_init_84 : decode cX9_init 84 = .ok (.bipush 32, 2) := by decide +kernel
theorem dX9_init_86 : decode cX9_init 86 = .ok (.newarray .int, 2) := by decide +kernel
theorem dX9_init_88 : decode cX9_init 88 = .ok (.putfield 42, 3) := by decide +kernel
theorem dX9_init_91 : decode cX9_init 91 = .ok (.aload_n 0, 1) := by decide +kernel
theorem dX9_init_92 : decode cX9_init 92 = .ok (.bipush 33, 2) := by decide +kernel
theorem dX9_init_94 : decode cX9_init 94 = .ok (.newarray .int, 2) := by decide +kernel
theorem dX9_init_96 : decode cX9_init 96 = .ok (.putfield 45, 3) := by decide +kernel
theorem dX9_init_99 : decode cX9_init 99 = .ok (.aload_n 0, 1) := by decide +kernel
theorem dX9_init_100 : decode cX9_init 100 = .ok (.bipush 33, 2) := by decide +kernel
theorem dX9_init_102 : decode cX9_init 102 = .ok (.newarray .int, 2) := by decide +kernel
theorem dX9_init_104 : decode cX9_init 104 = .ok (.putfield 48, 3) := by decide +kernel
theorem dX9_init_107 : decode cX9_init 107 = .ok (.aload_n 0, 1) := by decide +kernel
theorem dX9_init_108 : decode cX9_init 108 = .ok (.bipush 33, 2) := by decide +kernel
theorem dX9_init_110 : decode cX9_init 110 = .ok (.newarray .int, 2) := by decide +kernel
theorem dX9_init_112 : decode cX9_init 112 = .ok (.putfield 51, 3) := by decide +kernel
theorem dX9_init_115 : decode cX9_init 115 = .ok (.aload_n 0, 1) := by decide +kernel
theorem dX9_init_116 : decode cX9_init 116 = .ok (.bipush 33, 2) := by decide +kernel
theorem dX9_init_118 : decode cX9_init 118 = .ok (.newarray .boolean, 2) := by decide +kernel
theorem dX9_init_120 : decode cX9_init 120 = .ok (.putfield 54, 3) := by decide +kernel
theorem dX9_init_123 : decode cX9_init 123 = .ok (.aload_n 0, 1) := by decide +kernel
theorem dX9_init_124 : decode cX9_init 124 = .ok (.bipush 6, 2) := by decide +kernel
theorem dX9_init_126 : decode cX9_init 126 = .ok (.newarray .long, 2) := by decide +kernel
theorem dX9_init_128 : decode cX9_init 128 = .ok (.putfield 57, 3) := by decide +kernel
theorem dX9_init_131 : decode cX9_init 131 = .ok (.aload_n 0, 1) := by decide +kernel
theorem dX9_init_132 : decode cX9_init 132 = .ok (.sipush 216, 3) := by decide +kernel
theorem dX9_init_135 : decode cX9_init 135 = .ok (.newarray .long, 2) := by decide +kernel
theorem dX9_init_137 : decode cX9_init 137 = .ok (.putfield 61, 3) := by decide +kernel
theorem dX9_init_140 : decode cX9_init 140 = .ok (.aload_n 0, 1) := by decide +kernel
theorem dX9_init_141 : decode cX9_init 141 = .ok (.bipush 6, 2) := by decide +kernel
theorem dX9_init_143 : decode cX9_init 143 = .ok (.newarray .long, 2) := by decide +kernel
theorem dX9_init_145 : decode cX9_init 145 = .ok (.putfield 64, 3) := by decide +kernel
theorem dX9_init_148 : decode cX9_init 148 = .ok (.aload_n 0, 1) := by decide +kernel
theorem dX9_init_149 : decode cX9_init 149 = .ok (.bipush 6, 2) := by decide +kernel
theorem dX9_init_151 : decode cX9_init 151 = .ok (.newarray .long, 2) := by decide +kernel
theorem dX9_init_153 : decode cX9_init 153 = .ok (.putfield 67, 3) := by decide +kernel
theorem dX9_init_156 : decode cX9_init 156 = .ok (.aload_n 0, 1) := by decide +kernel
theorem dX9_init_157 : decode cX9_init 157 = .ok (.bipush 6, 2) := by decide +kernel
theorem dX9_init_159 : decode cX9_init 159 = .ok (.newarray .long, 2) := by decide +kernel
theorem dX9_init_161 : decode cX9_init 161 = .ok (.putfield 70, 3) := by decide +kernel
theorem dX9_init_164 : decode cX9_init 164 = .ok (.aload_n 0, 1) := by decide +kernel
theorem dX9_init_165 : decode cX9_init 165 = .ok (.sipush 1024, 3) := by decide +kernel
theorem dX9_init_168 : decode cX9_init 168 = .ok (.newarray .boolean, 2) := by decide +kernel
theorem dX9_init_170 : decode cX9_init 170 = .ok (.putfield 73, 3) := by decide +kernel
theorem dX9_init_173 : decode cX9_init 173 = .ok (.aload_n 0, 1) := by decide +kernel
theorem dX9_init_174 : decode cX9_init 174 = .ok (.bipush 32, 2) := by decide +kernel
theorem dX9_init_176 : decode cX9_init 176 = .ok (.newarray .int, 2) := by decide +kernel
theorem dX9_init_178 : decode cX9_init 178 = .ok (.putfield 76, 3) := by decide +kernel
theorem dX9_init_181 : decode cX9_init 181 = .ok (.aload_n 0, 1) := by decide +kernel
theorem dX9_init_182 : decode cX9_init 182 = .ok (.bipush 32, 2) := by decide +kernel
theorem dX9_init_184 : decode cX9_init 184 = .ok (.newarray .int, 2) := by decide +kernel
theorem dX9_init_186 : decode cX9_init 186 = .ok (.putfield 79, 3) := by decide +kernel
theorem dX9_init_189 : decode cX9_init 189 = .ok (.aload_n 0, 1) := by decide +kernel
theorem dX9_init_190 : decode cX9_init 190 = .ok (.bipush 32, 2) := by decide +kernel
theorem dX9_init_192 : decode cX9_init 192 = .ok (.newarray .int, 2) := by decide +kernel
theorem dX9_init_194 : decode cX9_init 194 = .ok (.putfield 82, 3) := by decide +kernel
theorem dX9_init_197 : decode cX9_init 197 = .ok (.aload_n 0, 1) := by decide +kernel
theorem dX9_init_198 : decode cX9_init 198 = .ok (.bipush 33, 2) := by decide +kernel
theorem dX9_init_200 : decode cX9_init 200 = .ok (.newarray .int, 2) := by decide +kernel
theorem dX9_init_202 : decode cX9_init 202 = .ok (.putfield 85, 3) := by decide +kernel
theorem dX9_init_205 : decode cX9_init 205 = .ok (.aload_n 0, 1) := by decide +kernel
theorem dX9_init_206 : decode cX9_init 206 = .ok (.bipush 33, 2) := by decide +kernel
theorem dX9_init_208 : decode cX9_init 208 = .ok (.newarray .int, 2) := by decide +kernel
theorem dX9_init_210 : decode cX9_init 210 = .ok (.putfield 88, 3) := by decide +kernel
theorem dX9_init_213 : decode cX9_init 213 = .ok (.aload_n 0, 1) := by decide +kernel
theorem dX9_init_214 : decode cX9_init 214 = .ok (.bipush 32, 2) := by decide +kernel
theorem dX9_init_216 : decode cX9_init 216 = .ok (.newarray .int, 2) := by decide +kernel
theorem dX9_init_218 : decode cX9_init 218 = .ok (.putfield 91, 3) := by decide +kernel
theorem dX9_init_221 : decode cX9_init 221 = .ok (.aload_n 0, 1) := by decide +kernel
theorem dX9_init_222 : decode cX9_init 222 = .ok (.bipush 33, 2) := by decide +kernel
theorem dX9_init_224 : decode cX9_init 224 = .ok (.newarray .int, 2) := by decide +kernel
theorem dX9_init_226 : decode cX9_init 226 = .ok (.putfield 94, 3) := by decide +kernel
theorem dX9_init_229 : decode cX9_init 229 = .ok (.aload_n 0, 1) := by decide +kernel
theorem dX9_init_230 : decode cX9_init 230 = .ok (.sipush 1024, 3) := by decide +kernel
theorem dX9_init_233 : decode cX9_init 233 = .ok (.newarray .int, 2) := by decide +kernel
theorem dX9_init_235 : decode cX9_init 235 = .ok (.putfield 97, 3) := by decide +kernel
theorem dX9_init_238 : decode cX9_init 238 = .ok (.aload_n 0, 1) := by decide +kernel
theorem dX9_init_239 : decode cX9_init 239 = .ok (.sipush 1024, 3) := by decide +kernel
theorem dX9_init_242 : decode cX9_init 242 = .ok (.newarray .int, 2) := by decide +kernel
theorem dX9_init_244 : decode cX9_init 244 = .ok (.putfield 100, 3) := by decide +kernel
theorem dX9_init_247 : decode cX9_init 247 = .ok (.aload_n 0, 1) := by decide +kernel
theorem dX9_init_248 : decode cX9_init 248 = .ok (.ldc 103, 2) := by decide +kernel
theorem dX9_init_250 : decode cX9_init 250 = .ok (.newarray .int, 2) := by decide +kernel
theorem dX9_init_252 : decode cX9_init 252 = .ok (.putfield 104, 3) := by decide +kernel
theorem dX9_init_255 : decode cX9_init 255 = .ok (.aload_n 0, 1) := by decide +kernel
theorem dX9_init_256 : decode cX9_init 256 = .ok (.sipush 1024, 3) := by decide +kernel
theorem dX9_init_259 : decode cX9_init 259 = .ok (.newarray .int, 2) := by decide +kernel
theorem dX9_init_261 : decode cX9_init 261 = .ok (.putfield 107, 3) := by decide +kernel
theorem dX9_init_264 : decode cX9_init 264 = .ok (.iconst 0, 1) := by decide +kernel
theorem dX9_init_265 : decode cX9_init 265 = .ok (.istore_n 1, 1) := by decide +kernel
theorem dX9_init_266 : decode cX9_init 266 = .ok (.iload_n 1, 1) := by decide +kernel
theorem dX9_init_267 : decode cX9_init 267 = .ok (.iconst 4, 1) := by decide +kernel
theorem dX9_init_268 : decode cX9_init 268 = .ok (.if_icmp .ge 16, 3) := by decide +kernel
theorem dX9_init_271 : decode cX9_init 271 = .ok (.aload_n 0, 1) := by decide +kernel
theorem dX9_init_272 : decode cX9_init 272 = .ok (.getfield 13, 3) := by decide +kernel
theorem dX9_init_275 : decode cX9_init 275 = .ok (.iload_n 1, 1) := by decide +kernel
theorem dX9_init_276 : decode cX9_init 276 = .ok (.iconst (-1), 1) := by decide +kernel
theorem dX9_init_277 : decode cX9_init 277 = .ok (.iastore, 1) := by decide +kernel
theorem dX9_init_278 : decode cX9_init 278 = .ok (.iinc 1 1, 3) := by decide +kernel
theorem dX9_init_281 : decode cX9_init 281 = .ok (.goto (-15), 3) := by decide +kernel
theorem dX9_init_284 : decode cX9_init 284 = .ok (.aload_n 0, 1) := by decide +kernel
theorem dX9_init_285 : decode cX9_init 285 = .ok (.getfield 30, 3) := by decide +kernel
theorem dX9_init_288 : decode cX9_init 288 = .ok (.iconst 0, 1) := by decide +kernel
theorem dX9_init_289 : decode cX9_init 289 = .ok (.iconst 1, 1) := by decide +kernel
theorem dX9_init_290 : decode cX9_init 290 = .ok (.iastore, 1) := by decide +kernel
theorem dX9_init_291 : decode cX9_init 291 = .ok (.aload_n 0, 1) := by decide +kernel
theorem dX9_init_292 : decode cX9_init 292 = .ok (.getfield 33, 3) := by decide +kernel
theorem dX9_init_295 : decode cX9_init 295 = .ok (.iconst 1, 1) := by decide +kernel
theorem dX9_init_296 : decode cX9_init 296 = .ok (.iconst 1, 1) := by decide +kernel
theorem dX9_init_297 : decode cX9_init 297 = .ok (.iastore, 1) := by decide +kernel
theorem dX9_init_298 : decode cX9_init 298 = .ok (.return_, 1) := by decide +kernel
theorem dX9_in_0 : decode cX9_in 0 = .ok (.lload_n 0, 1) := by decide +kernel
theorem dX9_in_1 : decode cX9_in 1 = .ok (.lload_n 2, 1) := by decide +kernel
theorem dX9_in_2 : decode cX9_in 2 = .ok (.lcmp, 1) := by decide +kernel
theorem dX9_in_3 : decode cX9_in 3 = .ok (.ifCond .lt 14, 3) := by decide +kernel
theorem dX9_in_6 : decode cX9_in 6 = .ok (.lload_n 0, 1) := by decide +kernel
theorem dX9_in_7 : decode cX9_in 7 = .ok (.lload 4, 2) := by decide +kernel
theorem dX9_in_9 : decode cX9_in 9 = .ok (.lcmp, 1) := by decide +kernel
theorem dX9_in_10 : decode cX9_in 10 = .ok (.ifCond .gt 7, 3) := by decide +kernel
theorem dX9_in_13 : decode cX9_in 13 = .ok (.iconst 1, 1) := by decide +kernel
theorem dX9_in_14 : decode cX9_in 14 = .ok (.goto 4, 3) := by decide +kernel
theorem dX9_in_17 : decode cX9_in 17 = .ok (.iconst 0, 1) := by decide +kernel
theorem dX9_in_18 : decode cX9_in 18 = .ok (.ireturn, 1) := by decide +kernel
set_option maxRecDepth 20000 in
theorem ggX9_isSheet_X9_in : GoodIn wsX9_isSheet wsX9_in := goodIn_r _ [5] (by decide +kernel) (by decide +kernel)
set_option maxRecDepth 20000 in
theorem gX9_isSheet_X9_in : GoodIn wsX9_isSheet (va_wsS RX9 112 yX9_in wsX9_in) := goodIn_app (goodIn_of _ (by decide +kernel)) ggX9_isSheet_X9_in
theorem dX9_isSheet_0 : decode cX9_isSheet 0 = .ok (.iload_n 0, 1) := by decide +kernel
theorem dX9_isSheet_1 : decode cX9_isSheet 1 = .ok (.i2l, 1) := by decide +kernel
theorem dX9_isSheet_2 : decode cX9_isSheet 2 = .ok (.lconst 0, 1) := by decide +kernel
theorem dX9_isSheet_3 : decode cX9_isSheet 3 = .ok (.ldc2_w 110, 3) := by decide +kernel
theorem dX9_isSheet_6 : decode cX9_isSheet 6 = .ok (.invokestatic 112, 3) := by decide +kernel
theorem dX9_isSheet_9 : decode cX9_isSheet 9 = .ok (.ireturn, 1) := by decide +kernel
set_option maxRecDepth 20000 in
theorem ggX9_isPost_X9_in : GoodIn wsX9_isPost wsX9_in := goodIn_r _ [5] (by decide +kernel) (by decide +kernel)
set_option maxRecDepth 20000 in
theorem gX9_isPost_X9_in : GoodIn wsX9_isPost (va_wsS RX9 112 yX9_in wsX9_in) := goodIn_app (goodIn_of _ (by decide +kernel)) ggX9_isPost_X9_in
theorem dX9_isPost_0 : decode cX9_isPost 0 = .ok (.iload_n 1, 1) := by decide +kernel
theorem dX9_isPost_1 : decode cX9_isPost 1 = .ok (.i2l, 1) := by decide +kernel
theorem dX9_isPost_2 : decode cX9_isPost 2 = .ok (.lconst 0, 1) := by decide +kernel
theorem dX9_isPost_3 : decode cX9_isPost 3 = .ok (.aload_n 0, 1) := by decide +kernel
theorem dX9_isPost_4 : decode cX9_isPost 4 = .ok (.getfield 116, 3) := by decide +kernel
theorem dX9_isPost_7 : decode cX9_isPost 7 = .ok (.iconst 1, 1) := by decide +kernel
theorem dX9_isPost_8 : decode cX9_isPost 8 = .ok (.isub, 1) := by decide +kernel
theorem dX9_isPost_9 : decode cX9_isPost 9 = .ok (.i2l, 1) := by decide +kernel
theorem dX9_isPost_10 : decode cX9_isPost 10 = .ok (.invokestatic 112, 3) := by decide +kernel
theorem dX9_isPost_13 : decode cX9_isPost 13 = .ok (.ireturn, 1) := by decide +kernel
set_option maxRecDepth 20000 in
theorem ggX9_sheet_X9_isSheet : GoodIn wsX9_sheet wsX9_isSheet := goodIn_r _ [8, 9, 10, 11, 7, 12] (by decide +kernel) (by decide +kernel)
set_option maxRecDepth 20000 in
theorem gX9_sheet_X9_isSheet : GoodIn wsX9_sheet (va_wsS RX9 119 yX9_isSheet wsX9_isSheet) := goodIn_app (goodIn_of _ (by decide +kernel)) ggX9_sheet_X9_isSheet
set_option maxRecDepth 20000 in
theorem ggX9_sheet_X9_in : GoodIn wsX9_sheet wsX9_in := goodIn_r _ [12] (by decide +kernel) (by decide +kernel)
set_option maxRecDepth 20000 in
theorem gX9_sheet_X9_in : GoodIn wsX9_sheet (va_wsS RX9 112 yX9_in wsX9_in) := goodIn_app (goodIn_of _ (by decide +kernel)) ggX9_sheet_X9_in
theorem dX9_sheet_0 : decode cX9_sheet 0 = .ok (.iload_n 1, 1) := by decide +kernel
theorem dX9_sheet_1 : decode cX9_sheet 1 = .ok (.invokestatic 119, 3) := by decide +kernel
theorem dX9_sheet_4 : decode cX9_sheet 4 = .ok (.ifCond .eq 15, 3) := by decide +kernel
theorem dX9_sheet_7 : decode cX9_sheet 7 = .ok (.iload_n 2, 1) := by decide +kernel
theorem dX9_sheet_8 : decode cX9_sheet 8 = .ok (.i2l, 1) := by decide +kernel
theorem dX9_sheet_9 : decode cX9_sheet 9 = .ok (.lconst 0, 1) := by decide +kernel
theorem dX9_sheet_10 : decode cX9_sheet 10 = .ok (.ldc2_w 123, 3) := by decide +kernel
theorem dX9_sheet_13 : decode cX9_sheet 13 = .ok (.invokestatic 112, 3) := by decide +kernel
theorem dX9_sheet_16 : decode cX9_sheet 16 = .ok (.ifCond .ne 5, 3) := by decide +kernel
theorem dX9_sheet_19 : decode cX9_sheet 19 = .ok (.iconst (-1), 1) := by decide +kernel
theorem dX9_sheet_20 : decode cX9_sheet 20 = .ok (.ireturn, 1) := by decide +kernel
theorem dX9_sheet_21 : decode cX9_sheet 21 = .ok (.iload_n 3, 1) := by decide +kernel
theorem dX9_sheet_22 : decode cX9_sheet 22 = .ok (.ifCond .ge 6, 3) := by decide +kernel
theorem dX9_sheet_25 : decode cX9_sheet 25 = .ok (.bipush (-4), 2) := by decide +kernel
theorem dX9_sheet_27 : decode cX9_sheet 27 = .ok (.ireturn, 1) := by decide +kernel
theorem dX9_sheet_28 : decode cX9_sheet 28 = .ok (.iload_n 3, 1) := by decide +kernel
theorem dX9_sheet_29 : decode cX9_sheet 29 = .ok (.bipush 60, 2) := by decide +kernel
theorem dX9_sheet_31 : decode cX9_sheet 31 = .ok (.if_icmp .le 5, 3) := by decide +kernel
theorem dX9_sheet_34 : decode cX9_sheet 34 = .ok (.iconst (-1), 1) := by decide +kernel
theorem dX9_sheet_35 : decode cX9_sheet 35 = .ok (.ireturn, 1) := by decide +kernel
theorem dX9_sheet_36 : decode cX9_sheet 36 = .ok (.aload_n 0, 1) := by decide +kernel
theorem dX9_sheet_37 : decode cX9_sheet 37 = .ok (.getfield 7, 3) := by decide +kernel
theorem dX9_sheet_40 : decode cX9_sheet 40 = .ok (.iload_n 1, 1) := by decide +kernel
theorem dX9_sheet_41 : decode cX9_sheet 41 = .ok (.iload_n 2, 1) := by decide +kernel
theorem dX9_sheet_42 : decode cX9_sheet 42 = .ok (.iastore, 1) := by decide +kernel
theorem dX9_sheet_43 : decode cX9_sheet 43 = .ok (.aload_n 0, 1) := by decide +kernel
theorem dX9_sheet_44 : decode cX9_sheet 44 = .ok (.getfield 13, 3) := by decide +kernel
theorem dX9_sheet_47 : decode cX9_sheet 47 = .ok (.iload_n 1, 1) := by decide +kernel
theorem dX9_sheet_48 : decode cX9_sheet 48 = .ok (.iload_n 3, 1) := by decide +kernel
theorem dX9_sheet_49 : decode cX9_sheet 49 = .ok (.iastore, 1) := by decide +kernel
theorem dX9_sheet_50 : decode cX9_sheet 50 = .ok (.iconst 0, 1) := by decide +kernel
theorem dX9_sheet_51 : decode cX9_sheet 51 = .ok (.istore 4, 2) := by decide +kernel
theorem dX9_sheet_53 : decode cX9_sheet 53 = .ok (.iload 4, 2) := by decide +kernel
theorem dX9_sheet_55 : decode cX9_sheet 55 = .ok (.iload_n 3, 1) := by decide +kernel
theorem dX9_sheet_56 : decode cX9_sheet 56 = .ok (.if_icmp .ge 22, 3) := by decide +kernel
theorem dX9_sheet_59 : decode cX9_sheet 59 = .ok (.aload_n 0, 1) := by decide +kernel
theorem dX9_sheet_60 : decode cX9_sheet 60 = .ok (.getfield 16, 3) := by decide +kernel
theorem dX9_sheet_63 : decode cX9_sheet 63 = .ok (.bipush 60, 2) := by decide +kernel
theorem dX9_sheet_65 : decode cX9_sheet 65 = .ok (.iload_n 1, 1) := by decide +kernel
theorem dX9_sheet_66 : decode cX9_sheet 66 = .ok (.imul, 1) := by decide +kernel
theorem dX9_sheet_67 : decode cX9_sheet 67 = .ok (.iload 4, 2) := by decide +kernel
theorem dX9_sheet_69 : decode cX9_sheet 69 = .ok (.iadd, 1) := by decide +kernel
theorem dX9_sheet_70 : decode cX9_sheet 70 = .ok (.iconst 0, 1) := by decide +kernel
theorem dX9_sheet_71 : decode cX9_sheet 71 = .ok (.iastore, 1) := by decide +kernel
theorem dX9_sheet_72 : decode cX9_sheet 72 = .ok (.iinc 4 1, 3) := by decide +kernel
theorem dX9_sheet_75 : decode cX9_sheet 75 = .ok (.goto (-22), 3) := by decide +kernel
theorem dX9_sheet_78 : decode cX9_sheet 78 = .ok (.iconst 1, 1) := by decide +kernel
theorem dX9_sheet_79 : decode cX9_sheet 79 = .ok (.ireturn, 1) := by decide +kernel
set_option maxRecDepth 20000 in
theorem ggX9_cell_X9_isSheet : GoodIn wsX9_cell wsX9_isSheet := goodIn_r _ [7, 8, 9, 10, 6, 11] (by decide +kernel) (by decide +kernel)
set_option maxRecDepth 20000 in
theorem gX9_cell_X9_isSheet : GoodIn wsX9_cell (va_wsS RX9 119 yX9_isSheet wsX9_isSheet) := goodIn_app (goodIn_of _ (by decide +kernel)) ggX9_cell_X9_isSheet
set_option maxRecDepth 20000 in
theorem ggX9_cell_X9_in : GoodIn wsX9_cell wsX9_in := goodIn_r _ [11] (by decide +kernel) (by decide +kernel)
set_option maxRecDepth 20000 in
theorem gX9_cell_X9_in : GoodIn wsX9_cell (va_wsS RX9 112 yX9_in wsX9_in) := goodIn_app (goodIn_of _ (by decide +kernel)) ggX9_cell_X9_in
theorem dX9_cell_0 : decode cX9_cell 0 = .ok (.iload_n 1, 1) := by decide +kernel
theorem dX9_cell_1 : decode cX9_cell 1 = .ok (.invokestatic 119, 3) := by decide +kernel
theorem dX9_cell_4 : decode cX9_cell 4 = .ok (.ifCond .ne 5, 3) := by decide +kernel
theorem dX9_cell_7 : decode cX9_cell 7 = .ok (.iconst (-1), 1) := by decide +kernel
theorem dX9_cell_8 : decode cX9_cell 8 = .ok (.ireturn, 1) := by decide +kernel
theorem dX9_cell_9 : decode cX9_cell 9 = .ok (.aload_n 0, 1) := by decide +kernel
theorem dX9_cell_10 : decode cX9_cell 10 = .ok (.getfield 13, 3) := by decide +kernel
theorem dX9_cell_13 : decode cX9_cell 13 = .ok (.iload_n 1, 1) := by decide +kernel
theorem dX9_cell_14 : decode cX9_cell 14 = .ok (.iaload, 1) := by decide +kernel
theorem dX9_cell_15 : decode cX9_cell 15 = .ok (.ifCond .ge 6, 3) := by decide +kernel
theorem dX9_cell_18 : decode cX9_cell 18 = .ok (.bipush (-3), 2) := by decide +kernel
theorem dX9_cell_20 : decode cX9_cell 20 = .ok (.ireturn, 1) := by decide +kernel
theorem dX9_cell_21 : decode cX9_cell 21 = .ok (.iload_n 2, 1) := by decide +kernel
theorem dX9_cell_22 : decode cX9_cell 22 = .ok (.i2l, 1) := by decide +kernel
theorem dX9_cell_23 : decode cX9_cell 23 = .ok (.lconst 0, 1) := by decide +kernel
theorem dX9_cell_24 : decode cX9_cell 24 = .ok (.aload_n 0, 1) := by decide +kernel
theorem dX9_cell_25 : decode cX9_cell 25 = .ok (.getfield 13, 3) := by decide +kernel
theorem dX9_cell_28 : decode cX9_cell 28 = .ok (.iload_n 1, 1) := by decide +kernel
theorem dX9_cell_29 : decode cX9_cell 29 = .ok (.iaload, 1) := by decide +kernel
theorem dX9_cell_30 : decode cX9_cell 30 = .ok (.iconst 1, 1) := by decide +kernel
theorem dX9_cell_31 : decode cX9_cell 31 = .ok (.isub, 1) := by decide +kernel
theorem dX9_cell_32 : decode cX9_cell 32 = .ok (.i2l, 1) := by decide +kernel
theorem dX9_cell_33 : decode cX9_cell 33 = .ok (.invokestatic 112, 3) := by decide +kernel
theorem dX9_cell_36 : decode cX9_cell 36 = .ok (.ifCond .ne 5, 3) := by decide +kernel
theorem dX9_cell_39 : decode cX9_cell 39 = .ok (.iconst (-1), 1) := by decide +kernel
theorem dX9_cell_40 : decode cX9_cell 40 = .ok (.ireturn, 1) := by decide +kernel
theorem dX9_cell_41 : decode cX9_cell 41 = .ok (.aload_n 0, 1) := by decide +kernel
theorem dX9_cell_42 : decode cX9_cell 42 = .ok (.getfield 16, 3) := by decide +kernel
theorem dX9_cell_45 : decode cX9_cell 45 = .ok (.bipush 60, 2) := by decide +kernel
theorem dX9_cell_47 : decode cX9_cell 47 = .ok (.iload_n 1, 1) := by decide +kernel
theorem dX9_cell_48 : decode cX9_cell 48 = .ok (.imul, 1) := by decide +kernel
theorem dX9_cell_49 : decode cX9_cell 49 = .ok (.iload_n 2, 1) := by decide +kernel
theorem dX9_cell_50 : decode cX9_cell 50 = .ok (.iadd, 1) := by decide +kernel
theorem dX9_cell_51 : decode cX9_cell 51 = .ok (.aload_n 0, 1) := by decide +kernel
theorem dX9_cell_52 : decode cX9_cell 52 = .ok (.getfield 7, 3) := by decide +kernel
theorem dX9_cell_55 : decode cX9_cell 55 = .ok (.iload_n 1, 1) := by decide +kernel
theorem dX9_cell_56 : decode cX9_cell 56 = .ok (.iaload, 1) := by decide +kernel
theorem dX9_cell_57 : decode cX9_cell 57 = .ok (.ifCond .ne 8, 3) := by decide +kernel
theorem dX9_cell_60 : decode cX9_cell 60 = .ok (.iload_n 3, 1) := by decide +kernel
theorem dX9_cell_61 : decode cX9_cell 61 = .ok (.i2b, 1) := by decide +kernel
theorem dX9_cell_62 : decode cX9_cell 62 = .ok (.goto 19, 3) := by decide +kernel
theorem dX9_cell_65 : decode cX9_cell 65 = .ok (.aload_n 0, 1) := by decide +kernel
theorem dX9_cell_66 : decode cX9_cell 66 = .ok (.getfield 7, 3) := by decide +kernel
theorem dX9_cell_69 : decode cX9_cell 69 = .ok (.iload_n 1, 1) := by decide +kernel
theorem dX9_cell_70 : decode cX9_cell 70 = .ok (.iaload, 1) := by decide +kernel
theorem dX9_cell_71 : decode cX9_cell 71 = .ok (.iconst 1, 1) := by decide +kernel
theorem dX9_cell_72 : decode cX9_cell 72 = .ok (.if_icmp .ne 8, 3) := by decide +kernel
theorem dX9_cell_75 : decode cX9_cell 75 = .ok (.iload_n 3, 1) := by decide +kernel
theorem dX9_cell_76 : decode cX9_cell 76 = .ok (.i2s, 1) := by decide +kernel
theorem dX9_cell_77 : decode cX9_cell 77 = .ok (.goto 4, 3) := by decide +kernel
theorem dX9_cell_80 : decode cX9_cell 80 = .ok (.iload_n 3, 1) := by decide +kernel
theorem dX9_cell_81 : decode cX9_cell 81 = .ok (.iastore, 1) := by decide +kernel
theorem dX9_cell_82 : decode cX9_cell 82 = .ok (.iconst 1, 1) := by decide +kernel
theorem dX9_cell_83 : decode cX9_cell 83 = .ok (.ireturn, 1) := by decide +kernel
set_option maxRecDepth 20000 in
theorem ggX9_lose_X9_isSheet : GoodIn wsX9_lose wsX9_isSheet := goodIn_r _ [5, 6, 7, 8, 4, 9] (by decide +kernel) (by decide +kernel)
set_option maxRecDepth 20000 in
theorem gX9_lose_X9_isSheet : GoodIn wsX9_lose (va_wsS RX9 119 yX9_isSheet wsX9_isSheet) := goodIn_app (goodIn_of _ (by decide +kernel)) ggX9_lose_X9_isSheet
theorem dX9_lose_0 : decode cX9_lose 0 = .ok (.iload_n 1, 1) := by decide +kernel
theorem dX9_lose_1 : decode cX9_lose 1 = .ok (.invokestatic 119, 3) := by decide +kernel
theorem dX9_lose_4 : decode cX9_lose 4 = .ok (.ifCond .ne 5, 3) := by decide +kernel
theorem dX9_lose_7 : decode cX9_lose 7 = .ok (.iconst (-1), 1) := by decide +kernel
theorem dX9_lose_8 : decode cX9_lose 8 = .ok (.ireturn, 1) := by decide +kernel
theorem dX9_lose_9 : decode cX9_lose 9 = .ok (.aload_n 0, 1) := by decide +kernel
theorem dX9_lose_10 : decode cX9_lose 10 = .ok (.getfield 13, 3) := by decide +kernel
theorem dX9_lose_13 : decode cX9_lose 13 = .ok (.iload_n 1, 1) := by decide +kernel
theorem dX9_lose_14 : decode cX9_lose 14 = .ok (.iaload, 1) := by decide +kernel
theorem dX9_lose_15 : decode cX9_lose 15 = .ok (.ifCond .ge 6, 3) := by decide +kernel
theorem dX9_lose_18 : decode cX9_lose 18 = .ok (.bipush (-3), 2) := by decide +kernel
theorem dX9_lose_20 : decode cX9_lose 20 = .ok (.ireturn, 1) := by decide +kernel
theorem dX9_lose_21 : decode cX9_lose 21 = .ok (.aload_n 0, 1) := by decide +kernel
theorem dX9_lose_22 : decode cX9_lose 22 = .ok (.getfield 13, 3) := by decide +kernel
theorem dX9_lose_25 : decode cX9_lose 25 = .ok (.iload_n 1, 1) := by decide +kernel
theorem dX9_lose_26 : decode cX9_lose 26 = .ok (.iconst (-1), 1) := by decide +kernel
theorem dX9_lose_27 : decode cX9_lose 27 = .ok (.iastore, 1) := by decide +kernel
theorem dX9_lose_28 : decode cX9_lose 28 = .ok (.iconst 1, 1) := by decide +kernel
theorem dX9_lose_29 : decode cX9_lose 29 = .ok (.ireturn, 1) := by decide +kernel
theorem dX9_fresh_0 : decode cX9_fresh 0 = .ok (.aload_n 0, 1) := by decide +kernel
theorem dX9_fresh_1 : decode cX9_fresh 1 = .ok (.iload_n 1, 1) := by decide +kernel
theorem dX9_fresh_2 : decode cX9_fresh 2 = .ok (.putfield 116, 3) := by decide +kernel
theorem dX9_fresh_5 : decode cX9_fresh 5 = .ok (.iconst 0, 1) := by decide +kernel
theorem dX9_fresh_6 : decode cX9_fresh 6 = .ok (.istore_n 2, 1) := by decide +kernel
theorem dX9_fresh_7 : decode cX9_fresh 7 = .ok (.iload_n 2, 1) := by decide +kernel
theorem dX9_fresh_8 : decode cX9_fresh 8 = .ok (.sipush 1024, 3) := by decide +kernel
theorem dX9_fresh_11 : decode cX9_fresh 11 = .ok (.if_icmp .ge 16, 3) := by decide +kernel
theorem dX9_fresh_14 : decode cX9_fresh 14 = .ok (.aload_n 0, 1) := by decide +kernel
theorem dX9_fresh_15 : decode cX9_fresh 15 = .ok (.getfield 19, 3) := by decide +kernel
theorem dX9_fresh_18 : decode cX9_fresh 18 = .ok (.iload_n 2, 1) := by decide +kernel
theorem dX9_fresh_19 : decode cX9_fresh 19 = .ok (.iconst 0, 1) := by decide +kernel
theorem dX9_fresh_20 : decode cX9_fresh 20 = .ok (.bastore, 1) := by decide +kernel
theorem dX9_fresh_21 : decode cX9_fresh 21 = .ok (.iinc 2 1, 3) := by decide +kernel
theorem dX9_fresh_24 : decode cX9_fresh 24 = .ok (.goto (-17), 3) := by decide +kernel
theorem dX9_fresh_27 : decode cX9_fresh 27 = .ok (.aload_n 0, 1) := by decide +kernel
theorem dX9_fresh_28 : decode cX9_fresh 28 = .ok (.iconst 0, 1) := by decide +kernel
theorem dX9_fresh_29 : decode cX9_fresh 29 = .ok (.putfield 125, 3) := by decide +kernel
theorem dX9_fresh_32 : decode cX9_fresh 32 = .ok (.aload_n 0, 1) := by decide +kernel
theorem dX9_fresh_33 : decode cX9_fresh 33 = .ok (.iconst 0, 1) := by decide +kernel
theorem dX9_fresh_34 : decode cX9_fresh 34 = .ok (.putfield 129, 3) := by decide +kernel
theorem dX9_fresh_37 : decode cX9_fresh 37 = .ok (.return_, 1) := by decide +kernel
set_option maxRecDepth 20000 in
theorem ggX9_net_X9_in : GoodIn wsX9_net wsX9_in := goodIn_r _ [5] (by decide +kernel) (by decide +kernel)
set_option maxRecDepth 20000 in
theorem gX9_net_X9_in : GoodIn wsX9_net (va_wsS RX9 112 yX9_in wsX9_in) := goodIn_app (goodIn_of _ (by decide +kernel)) ggX9_net_X9_in
set_option maxRecDepth 20000 in
theorem ggX9_net_X9_fresh : GoodIn wsX9_net wsX9_fresh := goodIn_r _ [9, 10, 11, 12, 13, 14, 15, 16, 17, 18, 19, 20, 21, 22, 23, 24, 25, 26, 27, 28, 29, 30, 31, 32, 33, 34, 35, 36, 37, 38, 39, 40, 41, 42, 43, 44, 45, 46, 47, 48, 49, 50, 51, 52, 53, 54, 55, 56, 57] (by decide +kernel) (by decide +kernel)
set_option maxRecDepth 20000 in
theorem gX9_net_X9_fresh : GoodIn wsX9_net (wsV RX9 134 RX9 yX9_fresh wsX9_fresh) := goodIn_app (goodIn_of _ (by decide +kernel)) ggX9_net_X9_fresh
theorem dX9_net_0 : decode cX9_net 0 = .ok (.iload_n 1, 1) := by decide +kernel
theorem dX9_net_1 : decode cX9_net 1 = .ok (.i2l, 1) := by decide +kernel
theorem dX9_net_2 : decode cX9_net 2 = .ok (.lconst 0, 1) := by decide +kernel
theorem dX9_net_3 : decode cX9_net 3 = .ok (.ldc2_w 132, 3) := by decide +kernel
theorem dX9_net_6 : decode cX9_net 6 = .ok (.invokestatic 112, 3) := by decide +kernel
theorem dX9_net_9 : decode cX9_net 9 = .ok (.ifCond .ne 5, 3) := by decide +kernel
theorem dX9_net_12 : decode cX9_net 12 = .ok (.iconst (-1), 1) := by decide +kernel
theorem dX9_net_13 : decode cX9_net 13 = .ok (.ireturn, 1) := by decide +kernel
theorem dX9_net_14 : decode cX9_net 14 = .ok (.aload_n 0, 1) := by decide +kernel
theorem dX9_net_15 : decode cX9_net 15 = .ok (.iload_n 1, 1) := by decide +kernel
theorem dX9_net_16 : decode cX9_net 16 = .ok (.invokevirtual 134, 3) := by decide +kernel
theorem dX9_net_19 : decode cX9_net 19 = .ok (.iconst 1, 1) := by decide +kernel
theorem dX9_net_20 : decode cX9_net 20 = .ok (.ireturn, 1) := by decide +kernel
theorem dX9_lay_0 : decode cX9_lay 0 = .ok (.aload_n 0, 1) := by decide +kernel
theorem dX9_lay_1 : decode cX9_lay 1 = .ok (.getfield 19, 3) := by decide +kernel
theorem dX9_lay_4 : decode cX9_lay 4 = .ok (.bipush 32, 2) := by decide +kernel
theorem dX9_lay_6 : decode cX9_lay 6 = .ok (.iload_n 1, 1) := by decide +kernel
theorem dX9_lay_7 : decode cX9_lay 7 = .ok (.imul, 1) := by decide +kernel
theorem dX9_lay_8 : decode cX9_lay 8 = .ok (.iload_n 2, 1) := by decide +kernel
theorem dX9_lay_9 : decode cX9_lay 9 = .ok (.iadd, 1) := by decide +kernel
theorem dX9_lay_10 : decode cX9_lay 10 = .ok (.baload, 1) := by decide +kernel
theorem dX9_lay_11 : decode cX9_lay 11 = .ok (.iload_n 3, 1) := by decide +kernel
theorem dX9_lay_12 : decode cX9_lay 12 = .ok (.if_icmp .eq 7, 3) := by decide +kernel
theorem dX9_lay_15 : decode cX9_lay 15 = .ok (.iconst 1, 1) := by decide +kernel
theorem dX9_lay_16 : decode cX9_lay 16 = .ok (.goto 4, 3) := by decide +kernel
theorem dX9_lay_19 : decode cX9_lay 19 = .ok (.iconst 0, 1) := by decide +kernel
theorem dX9_lay_20 : decode cX9_lay 20 = .ok (.istore 4, 2) := by decide +kernel
theorem dX9_lay_22 : decode cX9_lay 22 = .ok (.aload_n 0, 1) := by decide +kernel
theorem dX9_lay_23 : decode cX9_lay 23 = .ok (.getfield 19, 3) := by decide +kernel
theorem dX9_lay_26 : decode cX9_lay 26 = .ok (.bipush 32, 2) := by decide +kernel
theorem dX9_lay_28 : decode cX9_lay 28 = .ok (.iload_n 1, 1) := by decide +kernel
theorem dX9_lay_29 : decode cX9_lay 29 = .ok (.imul, 1) := by decide +kernel
theorem dX9_lay_30 : decode cX9_lay 30 = .ok (.iload_n 2, 1) := by decide +kernel
theorem dX9_lay_31 : decode cX9_lay 31 = .ok (.iadd, 1) := by decide +kernel
theorem dX9_lay_32 : decode cX9_lay 32 = .ok (.iload_n 3, 1) := by decide +kernel
theorem dX9_lay_33 : decode cX9_lay 33 = .ok (.bastore, 1) := by decide +kernel
theorem dX9_lay_34 : decode cX9_lay 34 = .ok (.aload_n 0, 1) := by decide +kernel
theorem dX9_lay_35 : decode cX9_lay 35 = .ok (.getfield 19, 3) := by decide +kernel
theorem dX9_lay_38 : decode cX9_lay 38 = .ok (.bipush 32, 2) := by decide +kernel
theorem dX9_lay_40 : decode cX9_lay 40 = .ok (.iload_n 2, 1) := by decide +kernel
theorem dX9_lay_41 : decode cX9_lay 41 = .ok (.imul, 1) := by decide +kernel
theorem dX9_lay_42 : decode cX9_lay 42 = .ok (.iload_n 1, 1) := by decide +kernel
theorem dX9_lay_43 : decode cX9_lay 43 = .ok (.iadd, 1) := by decide +kernel
theorem dX9_lay_44 : decode cX9_lay 44 = .ok (.iload_n 3, 1) := by decide +kernel
theorem dX9_lay_45 : decode cX9_lay 45 = .ok (.bastore, 1) := by decide +kernel
theorem dX9_lay_46 : decode cX9_lay 46 = .ok (.aload_n 0, 1) := by decide +kernel
theorem dX9_lay_47 : decode cX9_lay 47 = .ok (.iconst 0, 1) := by decide +kernel
theorem dX9_lay_48 : decode cX9_lay 48 = .ok (.putfield 125, 3) := by decide +kernel
theorem dX9_lay_51 : decode cX9_lay 51 = .ok (.aload_n 0, 1) := by decide +kernel
theorem dX9_lay_52 : decode cX9_lay 52 = .ok (.iconst 0, 1) := by decide +kernel
theorem dX9_lay_53 : decode cX9_lay 53 = .ok (.putfield 129, 3) := by decide +kernel
theorem dX9_lay_56 : decode cX9_lay 56 = .ok (.iload 4, 2) := by decide +kernel
theorem dX9_lay_58 : decode cX9_lay 58 = .ok (.ireturn, 1) := by decide +kernel
set_option maxRecDepth 20000 in
theorem ggX9_road_X9_isPost : GoodIn wsX9_road wsX9_isPost := goodIn_r _ [5, 6, 7, 8, 4, 9, 17, 18, 19, 20, 21, 22, 23, 24, 25, 26, 27, 28, 29, 30, 31, 32, 33, 34, 35, 36, 37, 38, 39, 40, 41, 42, 43, 44, 45, 46, 47, 48, 49, 50, 51, 52, 53, 54, 55, 56, 57, 58, 59, 60] (by decide +kernel) (by decide +kernel)
set_option maxRecDepth 20000 in
theorem gX9_road_X9_isPost : GoodIn wsX9_road (wsV RX9 138 RX9 yX9_isPost wsX9_isPost) := goodIn_app (goodIn_of _ (by decide +kernel)) ggX9_road_X9_isPost
set_option maxRecDepth 20000 in
theorem ggX9_road_X9_lay : GoodIn wsX9_road wsX9_lay := goodIn_r _ [13, 14, 15, 16, 17, 18, 19, 20, 21, 22, 23, 24, 25, 26, 27, 28, 29, 30, 31, 32, 33, 34, 35, 36, 37, 38, 39, 40, 41, 42, 43, 44, 45, 46, 47, 48, 49, 50, 51, 52, 53, 54, 55, 56, 57, 58, 59, 60] (by decide +kernel) (by decide +kernel)
set_option maxRecDepth 20000 in
theorem gX9_road_X9_lay : GoodIn wsX9_road (wsV RX9 141 RX9 yX9_lay wsX9_lay) := goodIn_app (goodIn_of _ (by decide +kernel)) ggX9_road_X9_lay
theorem dX9_road_0 : decode cX9_road 0 = .ok (.aload_n 0, 1) := by decide +kernel
theorem dX9_road_1 : decode cX9_road 1 = .ok (.iload_n 1, 1) := by decide +kernel
theorem dX9_road_2 : decode cX9_road 2 = .ok (.invokevirtual 138, 3) := by decide +kernel
theorem dX9_road_5 : decode cX9_road 5 = .ok (.ifCond .eq 16, 3) := by decide +kernel
theorem dX9_road_8 : decode cX9_road 8 = .ok (.aload_n 0, 1) := by decide +kernel
theorem dX9_road_9 : decode cX9_road 9 = .ok (.iload_n 2, 1) := by decide +kernel
theorem dX9_road_10 : decode cX9_road 10 = .ok (.invokevirtual 138, 3) := by decide +kernel
theorem dX9_road_13 : decode cX9_road 13 = .ok (.ifCond .eq 8, 3) := by decide +kernel
theorem dX9_road_16 : decode cX9_road 16 = .ok (.iload_n 1, 1) := by decide +kernel
theorem dX9_road_17 : decode cX9_road 17 = .ok (.iload_n 2, 1) := by decide +kernel
theorem dX9_road_18 : decode cX9_road 18 = .ok (.if_icmp .ne 5, 3) := by decide +kernel
theorem dX9_road_21 : decode cX9_road 21 = .ok (.iconst (-1), 1) := by decide +kernel
theorem dX9_road_22 : decode cX9_road 22 = .ok (.ireturn, 1) := by decide +kernel
theorem dX9_road_23 : decode cX9_road 23 = .ok (.aload_n 0, 1) := by decide +kernel
theorem dX9_road_24 : decode cX9_road 24 = .ok (.iload_n 1, 1) := by decide +kernel
theorem dX9_road_25 : decode cX9_road 25 = .ok (.iload_n 2, 1) := by decide +kernel
theorem dX9_road_26 : decode cX9_road 26 = .ok (.iload_n 3, 1) := by decide +kernel
theorem dX9_road_27 : decode cX9_road 27 = .ok (.invokevirtual 141, 3) := by decide +kernel
theorem dX9_road_30 : decode cX9_road 30 = .ok (.ifCond .eq 7, 3) := by decide +kernel
theorem dX9_road_33 : decode cX9_road 33 = .ok (.iconst 1, 1) := by decide +kernel
theorem dX9_road_34 : decode cX9_road 34 = .ok (.goto 4, 3) := by decide +kernel
theorem dX9_road_37 : decode cX9_road 37 = .ok (.iconst 0, 1) := by decide +kernel
theorem dX9_road_38 : decode cX9_road 38 = .ok (.ireturn, 1) := by decide +kernel
set_option maxRecDepth 20000 in
theorem ggX9_load_X9_isSheet : GoodIn wsX9_load wsX9_isSheet := goodIn_r _ [7, 8, 9, 10, 6, 11] (by decide +kernel) (by decide +kernel)
set_option maxRecDepth 20000 in
theorem gX9_load_X9_isSheet : GoodIn wsX9_load (va_wsS RX9 119 yX9_isSheet wsX9_isSheet) := goodIn_app (goodIn_of _ (by decide +kernel)) ggX9_load_X9_isSheet
set_option maxRecDepth 20000 in
theorem ggX9_load_X9_isPost : GoodIn wsX9_load wsX9_isPost := goodIn_r _ [15, 16, 9, 10, 6, 11, 24, 25, 26, 27, 28, 29, 30, 31, 32, 33, 34, 35, 36, 37, 38, 39, 40, 41, 42, 43, 44, 45, 46, 47, 48, 49, 50, 51, 52, 53, 54, 55, 56, 57, 58, 59, 60, 61, 62, 63, 64, 65, 66, 67] (by decide +kernel) (by decide +kernel)
set_option maxRecDepth 20000 in
theorem gX9_load_X9_isPost : GoodIn wsX9_load (wsV RX9 138 RX9 yX9_isPost wsX9_isPost) := goodIn_app (goodIn_of _ (by decide +kernel)) ggX9_load_X9_isPost
set_option maxRecDepth 20000 in
theorem ggX9_load_X9_lay : GoodIn wsX9_load wsX9_lay := goodIn_r _ [20, 21, 22, 23, 24, 25, 26, 27, 28, 29, 30, 31, 32, 33, 34, 35, 36, 37, 38, 39, 40, 41, 42, 43, 44, 45, 46, 47, 48, 49, 50, 51, 52, 53, 54, 55, 56, 57, 58, 59, 60, 61, 62, 63, 64, 65, 66, 67] (by decide +kernel) (by decide +kernel)
set_option maxRecDepth 20000 in
theorem gX9_load_X9_lay : GoodIn wsX9_load (wsV RX9 141 RX9 yX9_lay wsX9_lay) := goodIn_app (goodIn_of _ (by decide +kernel)) ggX9_load_X9_lay
theorem dX9_load_0 : decode cX9_load 0 = .ok (.iload_n 1, 1) := by decide +kernel
theorem dX9_load_1 : decode cX9_load 1 = .ok (.invokestatic 119, 3) := by decide +kernel
theorem dX9_load_4 : decode cX9_load 4 = .ok (.ifCond .ne 5, 3) := by decide +kernel
theorem dX9_load_7 : decode cX9_load 7 = .ok (.iconst (-1), 1) := by decide +kernel
theorem dX9_load_8 : decode cX9_load 8 = .ok (.ireturn, 1) := by decide +kernel
theorem dX9_load_9 : decode cX9_load 9 = .ok (.aload_n 0, 1) := by decide +kernel
theorem dX9_load_10 : decode cX9_load 10 = .ok (.getfield 13, 3) := by decide +kernel
theorem dX9_load_13 : decode cX9_load 13 = .ok (.iload_n 1, 1) := by decide +kernel
theorem dX9_load_14 : decode cX9_load 14 = .ok (.iaload, 1) := by decide +kernel
theorem dX9_load_15 : decode cX9_load 15 = .ok (.ifCond .ge 6, 3) := by decide +kernel
theorem dX9_load_18 : decode cX9_load 18 = .ok (.bipush (-3), 2) := by decide +kernel
theorem dX9_load_20 : decode cX9_load 20 = .ok (.ireturn, 1) := by decide +kernel
theorem dX9_load_21 : decode cX9_load 21 = .ok (.iload_n 2, 1) := by decide +kernel
theorem dX9_load_22 : decode cX9_load 22 = .ok (.ifCond .lt 27, 3) := by decide +kernel
theorem dX9_load_25 : decode cX9_load 25 = .ok (.iload_n 3, 1) := by decide +kernel
theorem dX9_load_26 : decode cX9_load 26 = .ok (.ifCond .lt 23, 3) := by decide +kernel
theorem dX9_load_29 : decode cX9_load 29 = .ok (.iload_n 2, 1) := by decide +kernel
theorem dX9_load_30 : decode cX9_load 30 = .ok (.i2l, 1) := by decide +kernel
theorem dX9_load_31 : decode cX9_load 31 = .ok (.ldc2_w 123, 3) := by decide +kernel
theorem dX9_load_34 : decode cX9_load 34 = .ok (.iload_n 3, 1) := by decide +kernel
theorem dX9_load_35 : decode cX9_load 35 = .ok (.i2l, 1) := by decide +kernel
theorem dX9_load_36 : decode cX9_load 36 = .ok (.lmul, 1) := by decide +kernel
theorem dX9_load_37 : decode cX9_load 37 = .ok (.ladd, 1) := by decide +kernel
theorem dX9_load_38 : decode cX9_load 38 = .ok (.aload_n 0, 1) := by decide +kernel
theorem dX9_load_39 : decode cX9_load 39 = .ok (.getfield 13, 3) := by decide +kernel
theorem dX9_load_42 : decode cX9_load 42 = .ok (.iload_n 1, 1) := by decide +kernel
theorem dX9_load_43 : decode cX9_load 43 = .ok (.iaload, 1) := by decide +kernel
theorem dX9_load_44 : decode cX9_load 44 = .ok (.i2l, 1) := by decide +kernel
theorem dX9_load_45 : decode cX9_load 45 = .ok (.lcmp, 1) := by decide +kernel
theorem dX9_load_46 : decode cX9_load 46 = .ok (.ifCond .le 5, 3) := by decide +kernel
theorem dX9_load_49 : decode cX9_load 49 = .ok (.iconst (-1), 1) := by decide +kernel
theorem dX9_load_50 : decode cX9_load 50 = .ok (.ireturn, 1) := by decide +kernel
theorem dX9_load_51 : decode cX9_load 51 = .ok (.iconst 0, 1) := by decide +kernel
theorem dX9_load_52 : decode cX9_load 52 = .ok (.istore 4, 2) := by decide +kernel
theorem dX9_load_54 : decode cX9_load 54 = .ok (.iload 4, 2) := by decide +kernel
theorem dX9_load_56 : decode cX9_load 56 = .ok (.iload_n 3, 1) := by decide +kernel
theorem dX9_load_57 : decode cX9_load 57 = .ok (.if_icmp .ge 74, 3) := by decide +kernel
theorem dX9_load_60 : decode cX9_load 60 = .ok (.aload_n 0, 1) := by decide +kernel
theorem dX9_load_61 : decode cX9_load 61 = .ok (.getfield 16, 3) := by decide +kernel
theorem dX9_load_64 : decode cX9_load 64 = .ok (.bipush 60, 2) := by decide +kernel
theorem dX9_load_66 : decode cX9_load 66 = .ok (.iload_n 1, 1) := by decide +kernel
theorem dX9_load_67 : decode cX9_load 67 = .ok (.imul, 1) := by decide +kernel
theorem dX9_load_68 : decode cX9_load 68 = .ok (.iload_n 2, 1) := by decide +kernel
theorem dX9_load_69 : decode cX9_load 69 = .ok (.iadd, 1) := by decide +kernel
theorem dX9_load_70 : decode cX9_load 70 = .ok (.iconst 2, 1) := by decide +kernel
theorem dX9_load_71 : decode cX9_load 71 = .ok (.iload 4, 2) := by decide +kernel
theorem dX9_load_73 : decode cX9_load 73 = .ok (.imul, 1) := by decide +kernel
theorem dX9_load_74 : decode cX9_load 74 = .ok (.iadd, 1) := by decide +kernel
theorem dX9_load_75 : decode cX9_load 75 = .ok (.iaload, 1) := by decide +kernel
theorem dX9_load_76 : decode cX9_load 76 = .ok (.istore 5, 2) := by decide +kernel
theorem dX9_load_78 : decode cX9_load 78 = .ok (.aload_n 0, 1) := by decide +kernel
theorem dX9_load_79 : decode cX9_load 79 = .ok (.getfield 16, 3) := by decide +kernel
theorem dX9_load_82 : decode cX9_load 82 = .ok (.bipush 60, 2) := by decide +kernel
theorem dX9_load_84 : decode cX9_load 84 = .ok (.iload_n 1, 1) := by decide +kernel
theorem dX9_load_85 : decode cX9_load 85 = .ok (.imul, 1) := by decide +kernel
theorem dX9_load_86 : decode cX9_load 86 = .ok (.iload_n 2, 1) := by decide +kernel
theorem dX9_load_87 : decode cX9_load 87 = .ok (.iadd, 1) := by decide +kernel
theorem dX9_load_88 : decode cX9_load 88 = .ok (.iconst 2, 1) := by decide +kernel
theorem dX9_load_89 : decode cX9_load 89 = .ok (.iload 4, 2) := by decide +kernel
theorem dX9_load_91 : decode cX9_load 91 = .ok (.imul, 1) := by decide +kernel
theorem dX9_load_92 : decode cX9_load 92 = .ok (.iadd, 1) := by decide +kernel
theorem dX9_load_93 : decode cX9_load 93 = .ok (.iconst 1, 1) := by decide +kernel
theorem dX9_load_94 : decode cX9_load 94 = .ok (.iadd, 1) := by decide +kernel
theorem dX9_load_95 : decode cX9_load 95 = .ok (.iaload, 1) := by decide +kernel
theorem dX9_load_96 : decode cX9_load 96 = .ok (.istore 6, 2) := by decide +kernel
theorem dX9_load_98 : decode cX9_load 98 = .ok (.aload_n 0, 1) := by decide +kernel
theorem dX9_load_99 : decode cX9_load 99 = .ok (.iload 5, 2) := by decide +kernel
theorem dX9_load_101 : decode cX9_load 101 = .ok (.invokevirtual 138, 3) := by decide +kernel
theorem dX9_load_104 : decode cX9_load 104 = .ok (.ifCond .eq 19, 3) := by decide +kernel
theorem dX9_load_107 : decode cX9_load 107 = .ok (.aload_n 0, 1) := by decide +kernel
theorem dX9_load_108 : decode cX9_load 108 = .ok (.iload 6, 2) := by decide +kernel
theorem dX9_load_110 : decode cX9_load 110 = .ok (.invokevirtual 138, 3) := by decide +kernel
theorem dX9_load_113 : decode cX9_load 113 = .ok (.ifCond .eq 10, 3) := by decide +kernel
theorem dX9_load_116 : decode cX9_load 116 = .ok (.iload 5, 2) := by decide +kernel
theorem dX9_load_118 : decode cX9_load 118 = .ok (.iload 6, 2) := by decide +kernel
theorem dX9_load_120 : decode cX9_load 120 = .ok (.if_icmp .ne 5, 3) := by decide +kernel
theorem dX9_load_123 : decode cX9_load 123 = .ok (.iconst (-1), 1) := by decide +kernel
theorem dX9_load_124 : decode cX9_load 124 = .ok (.ireturn, 1) := by decide +kernel
theorem dX9_load_125 : decode cX9_load 125 = .ok (.iinc 4 1, 3) := by decide +kernel
theorem dX9_load_128 : decode cX9_load 128 = .ok (.goto (-74), 3) := by decide +kernel
theorem dX9_load_131 : decode cX9_load 131 = .ok (.iconst 0, 1) := by decide +kernel
theorem dX9_load_132 : decode cX9_load 132 = .ok (.istore 4, 2) := by decide +kernel
theorem dX9_load_134 : decode cX9_load 134 = .ok (.iconst 0, 1) := by decide +kernel
theorem dX9_load_135 : decode cX9_load 135 = .ok (.istore 5, 2) := by decide +kernel
theorem dX9_load_137 : decode cX9_load 137 = .ok (.iload 5, 2) := by decide +kernel
theorem dX9_load_139 : decode cX9_load 139 = .ok (.iload_n 3, 1) := by decide +kernel
theorem dX9_load_140 : decode cX9_load 140 = .ok (.if_icmp .ge 61, 3) := by decide +kernel
theorem dX9_load_143 : decode cX9_load 143 = .ok (.iload 4, 2) := by decide +kernel
theorem dX9_load_145 : decode cX9_load 145 = .ok (.aload_n 0, 1) := by decide +kernel
theorem dX9_load_146 : decode cX9_load 146 = .ok (.aload_n 0, 1) := by decide +kernel
theorem dX9_load_147 : decode cX9_load 147 = .ok (.getfield 16, 3) := by decide +kernel
theorem dX9_load_150 : decode cX9_load 150 = .ok (.bipush 60, 2) := by decide +kernel
theorem dX9_load_152 : decode cX9_load 152 = .ok (.iload_n 1, 1) := by decide +kernel
theorem dX9_load_153 : decode cX9_load 153 = .ok (.imul, 1) := by decide +kernel
theorem dX9_load_154 : decode cX9_load 154 = .ok (.iload_n 2, 1) := by decide +kernel
theorem dX9_load_155 : decode cX9_load 155 = .ok (.iadd, 1) := by decide +kernel
theorem dX9_load_156 : decode cX9_load 156 = .ok (.iconst 2, 1) := by decide +kernel
theorem dX9_load_157 : decode cX9_load 157 = .ok (.iload 5, 2) := by decide +kernel
theorem dX9_load_159 : decode cX9_load 159 = .ok (.imul, 1) := by decide +kernel
theorem dX9_load_160 : decode cX9_load 160 = .ok (.iadd, 1) := by decide +kernel
theorem dX9_load_161 : decode cX9_load 161 = .ok (.iaload, 1) := by decide +kernel
theorem dX9_load_162 : decode cX9_load 162 = .ok (.aload_n 0, 1) := by decide +kernel
theorem dX9_load_163 : decode cX9_load 163 = .ok (.getfield 16, 3) := by decide +kernel
theorem dX9_load_166 : decode cX9_load 166 = .ok (.bipush 60, 2) := by decide +kernel
theorem dX9_load_168 : decode cX9_load 168 = .ok (.iload_n 1, 1) := by decide +kernel
theorem dX9_load_169 : decode cX9_load 169 = .ok (.imul, 1) := by decide +kernel
theorem dX9_load_170 : decode cX9_load 170 = .ok (.iload_n 2, 1) := by decide +kernel
theorem dX9_load_171 : decode cX9_load 171 = .ok (.iadd, 1) := by decide +kernel
theorem dX9_load_172 : decode cX9_load 172 = .ok (.iconst 2, 1) := by decide +kernel
theorem dX9_load_173 : decode cX9_load 173 = .ok (.iload 5, 2) := by decide +kernel
theorem dX9_load_175 : decode cX9_load 175 = .ok (.imul, 1) := by decide +kernel
theorem dX9_load_176 : decode cX9_load 176 = .ok (.iadd, 1) := by decide +kernel
theorem dX9_load_177 : decode cX9_load 177 = .ok (.iconst 1, 1) := by decide +kernel
theorem dX9_load_178 : decode cX9_load 178 = .ok (.iadd, 1) := by decide +kernel
theorem dX9_load_179 : decode cX9_load 179 = .ok (.iaload, 1) := by decide +kernel
theorem dX9_load_180 : decode cX9_load 180 = .ok (.iconst 1, 1) := by decide +kernel
theorem dX9_load_181 : decode cX9_load 181 = .ok (.invokevirtual 141, 3) := by decide +kernel
theorem dX9_load_184 : decode cX9_load 184 = .ok (.ifCond .eq 7, 3) := by decide +kernel
theorem dX9_load_187 : decode cX9_load 187 = .ok (.iconst 1, 1) := by decide +kernel
theorem dX9_load_188 : decode cX9_load 188 = .ok (.goto 4, 3) := by decide +kernel
theorem dX9_load_191 : decode cX9_load 191 = .ok (.iconst 0, 1) := by decide +kernel
theorem dX9_load_192 : decode cX9_load 192 = .ok (.iadd, 1) := by decide +kernel
theorem dX9_load_193 : decode cX9_load 193 = .ok (.istore 4, 2) := by decide +kernel
theorem dX9_load_195 : decode cX9_load 195 = .ok (.iinc 5 1, 3) := by decide +kernel
theorem dX9_load_198 : decode cX9_load 198 = .ok (.goto (-61), 3) := by decide +kernel
theorem dX9_load_201 : decode cX9_load 201 = .ok (.iload 4, 2) := by decide +kernel
theorem dX9_load_203 : decode cX9_load 203 = .ok (.ireturn, 1) := by decide +kernel
set_option maxRecDepth 20000 in
theorem ggX9_joined_X9_isPost : GoodIn wsX9_joined wsX9_isPost := goodIn_r _ [6, 7, 8, 9, 5, 10, 11, 12, 13, 14, 15, 16, 17, 18, 19, 20, 21, 22, 23, 24, 25, 26, 27, 28, 29, 30, 31, 32, 33, 34, 35, 36, 37, 38, 39, 40, 41, 42, 43, 44, 45, 46, 47, 48, 49, 50, 51, 52, 53, 54] (by decide +kernel) (by decide +kernel)
set_option maxRecDepth 20000 in
theorem gX9_joined_X9_isPost : GoodIn wsX9_joined (wsV RX9 138 RX9 yX9_isPost wsX9_isPost) := goodIn_app (goodIn_of _ (by decide +kernel)) ggX9_joined_X9_isPost
theorem dX9_joined_0 : decode cX9_joined 0 = .ok (.aload_n 0, 1) := by decide +kernel
theorem dX9_joined_1 : decode cX9_joined 1 = .ok (.iload_n 1, 1) := by decide +kernel
theorem dX9_joined_2 : decode cX9_joined 2 = .ok (.invokevirtual 138, 3) := by decide +kernel
theorem dX9_joined_5 : decode cX9_joined 5 = .ok (.ifCond .eq 29, 3) := by decide +kernel
theorem dX9_joined_8 : decode cX9_joined 8 = .ok (.aload_n 0, 1) := by decide +kernel
theorem dX9_joined_9 : decode cX9_joined 9 = .ok (.iload_n 2, 1) := by decide +kernel
theorem dX9_joined_10 : decode cX9_joined 10 = .ok (.invokevirtual 138, 3) := by decide +kernel
theorem dX9_joined_13 : decode cX9_joined 13 = .ok (.ifCond .eq 21, 3) := by decide +kernel
theorem dX9_joined_16 : decode cX9_joined 16 = .ok (.aload_n 0, 1) := by decide +kernel
theorem dX9_joined_17 : decode cX9_joined 17 = .ok (.getfield 19, 3) := by decide +kernel
theorem dX9_joined_20 : decode cX9_joined 20 = .ok (.bipush 32, 2) := by decide +kernel
theorem dX9_joined_22 : decode cX9_joined 22 = .ok (.iload_n 1, 1) := by decide +kernel
theorem dX9_joined_23 : decode cX9_joined 23 = .ok (.imul, 1) := by decide +kernel
theorem dX9_joined_24 : decode cX9_joined 24 = .ok (.iload_n 2, 1) := by decide +kernel
theorem dX9_joined_25 : decode cX9_joined 25 = .ok (.iadd, 1) := by decide +kernel
theorem dX9_joined_26 : decode cX9_joined 26 = .ok (.baload, 1) := by decide +kernel
theorem dX9_joined_27 : decode cX9_joined 27 = .ok (.ifCond .eq 7, 3) := by decide +kernel
theorem dX9_joined_30 : decode cX9_joined 30 = .ok (.iconst 1, 1) := by decide +kernel
theorem dX9_joined_31 : decode cX9_joined 31 = .ok (.goto 4, 3) := by decide +kernel
theorem dX9_joined_34 : decode cX9_joined 34 = .ok (.iconst 0, 1) := by decide +kernel
theorem dX9_joined_35 : decode cX9_joined 35 = .ok (.ireturn, 1) := by decide +kernel
theorem dX9_ones_0 : decode cX9_ones 0 = .ok (.iconst 0, 1) := by decide +kernel
theorem dX9_ones_1 : decode cX9_ones 1 = .ok (.istore_n 1, 1) := by decide +kernel
theorem dX9_ones_2 : decode cX9_ones 2 = .ok (.iconst 0, 1) := by decide +kernel
theorem dX9_ones_3 : decode cX9_ones 3 = .ok (.istore_n 2, 1) := by decide +kernel
theorem dX9_ones_4 : decode cX9_ones 4 = .ok (.iload_n 2, 1) := by decide +kernel
theorem dX9_ones_5 : decode cX9_ones 5 = .ok (.bipush 32, 2) := by decide +kernel
theorem dX9_ones_7 : decode cX9_ones 7 = .ok (.if_icmp .ge 17, 3) := by decide +kernel
theorem dX9_ones_10 : decode cX9_ones 10 = .ok (.iload_n 1, 1) := by decide +kernel
theorem dX9_ones_11 : decode cX9_ones 11 = .ok (.iload_n 0, 1) := by decide +kernel
theorem dX9_ones_12 : decode cX9_ones 12 = .ok (.iload_n 2, 1) := by decide +kernel
theorem dX9_ones_13 : decode cX9_ones 13 = .ok (.ishr, 1) := by decide +kernel
theorem dX9_ones_14 : decode cX9_ones 14 = .ok (.iconst 1, 1) := by decide +kernel
theorem dX9_ones_15 : decode cX9_ones 15 = .ok (.iand, 1) := by decide +kernel
theorem dX9_ones_16 : decode cX9_ones 16 = .ok (.iadd, 1) := by decide +kernel
theorem dX9_ones_17 : decode cX9_ones 17 = .ok (.istore_n 1, 1) := by decide +kernel
theorem dX9_ones_18 : decode cX9_ones 18 = .ok (.iinc 2 1, 3) := by decide +kernel
theorem dX9_ones_21 : decode cX9_ones 21 = .ok (.goto (-17), 3) := by decide +kernel
theorem dX9_ones_24 : decode cX9_ones 24 = .ok (.iload_n 1, 1) := by decide +kernel
theorem dX9_ones_25 : decode cX9_ones 25 = .ok (.ireturn, 1) := by decide +kernel
theorem dX9_findSets_0 : decode cX9_findSets 0 = .ok (.iconst 0, 1) := by decide +kernel
theorem dX9_findSets_1 : decode cX9_findSets 1 = .ok (.istore_n 3, 1) := by decide +kernel
theorem dX9_findSets_2 : decode cX9_findSets 2 = .ok (.lconst 1, 1) := by decide +kernel
theorem dX9_findSets_3 : decode cX9_findSets 3 = .ok (.iload_n 2, 1) := by decide +kernel
theorem dX9_findSets_4 : decode cX9_findSets 4 = .ok (.lshl, 1) := by decide +kernel
theorem dX9_findSets_5 : decode cX9_findSets 5 = .ok (.lconst 1, 1) := by decide +kernel
theorem dX9_findSets_6 : decode cX9_findSets 6 = .ok (.lsub, 1) := by decide +kernel
theorem dX9_findSets_7 : decode cX9_findSets 7 = .ok (.lstore 4, 2) := by decide +kernel
theorem dX9_findSets_9 : decode cX9_findSets 9 = .ok (.lload 4, 2) := by decide +kernel
theorem dX9_findSets_11 : decode cX9_findSets 11 = .ok (.lconst 1, 1) := by decide +kernel
theorem dX9_findSets_12 : decode cX9_findSets 12 = .ok (.iload_n 1, 1) := by decide +kernel
theorem dX9_findSets_13 : decode cX9_findSets 13 = .ok (.lshl, 1) := by decide +kernel
theorem dX9_findSets_14 : decode cX9_findSets 14 = .ok (.lcmp, 1) := by decide +kernel
theorem dX9_findSets_15 : decode cX9_findSets 15 = .ok (.ifCond .ge 54, 3) := by decide +kernel
theorem dX9_findSets_18 : decode cX9_findSets 18 = .ok (.iload_n 3, 1) := by decide +kernel
theorem dX9_findSets_19 : decode cX9_findSets 19 = .ok (.bipush 32, 2) := by decide +kernel
theorem dX9_findSets_21 : decode cX9_findSets 21 = .ok (.if_icmp .gt 48, 3) := by decide +kernel
theorem dX9_findSets_24 : decode cX9_findSets 24 = .ok (.aload_n 0, 1) := by decide +kernel
theorem dX9_findSets_25 : decode cX9_findSets 25 = .ok (.getfield 36, 3) := by decide +kernel
theorem dX9_findSets_28 : decode cX9_findSets 28 = .ok (.iload_n 3, 1) := by decide +kernel
theorem dX9_findSets_29 : decode cX9_findSets 29 = .ok (.lload 4, 2) := by decide +kernel
theorem dX9_findSets_31 : decode cX9_findSets 31 = .ok (.l2i, 1) := by decide +kernel
theorem dX9_findSets_32 : decode cX9_findSets 32 = .ok (.iastore, 1) := by decide +kernel
theorem dX9_findSets_33 : decode cX9_findSets 33 = .ok (.iinc 3 1, 3) := by decide +kernel
theorem dX9_findSets_36 : decode cX9_findSets 36 = .ok (.lload 4, 2) := by decide +kernel
theorem dX9_findSets_38 : decode cX9_findSets 38 = .ok (.lload 4, 2) := by decide +kernel
theorem dX9_findSets_40 : decode cX9_findSets 40 = .ok (.lneg, 1) := by decide +kernel
theorem dX9_findSets_41 : decode cX9_findSets 41 = .ok (.land, 1) := by decide +kernel
theorem dX9_findSets_42 : decode cX9_findSets 42 = .ok (.lstore 6, 2) := by decide +kernel
theorem dX9_findSets_44 : decode cX9_findSets 44 = .ok (.lload 4, 2) := by decide +kernel
theorem dX9_findSets_46 : decode cX9_findSets 46 = .ok (.lload 6, 2) := by decide +kernel
theorem dX9_findSets_48 : decode cX9_findSets 48 = .ok (.ladd, 1) := by decide +kernel
theorem dX9_findSets_49 : decode cX9_findSets 49 = .ok (.lstore 8, 2) := by decide +kernel
theorem dX9_findSets_51 : decode cX9_findSets 51 = .ok (.lload 4, 2) := by decide +kernel
theorem dX9_findSets_53 : decode cX9_findSets 53 = .ok (.lload 8, 2) := by decide +kernel
theorem dX9_findSets_55 : decode cX9_findSets 55 = .ok (.lxor, 1) := by decide +kernel
theorem dX9_findSets_56 : decode cX9_findSets 56 = .ok (.lload 6, 2) := by decide +kernel
theorem dX9_findSets_58 : decode cX9_findSets 58 = .ok (.ldiv, 1) := by decide +kernel
theorem dX9_findSets_59 : decode cX9_findSets 59 = .ok (.iconst 2, 1) := by decide +kernel
theorem dX9_findSets_60 : decode cX9_findSets 60 = .ok (.lshr, 1) := by decide +kernel
theorem dX9_findSets_61 : decode cX9_findSets 61 = .ok (.lload 8, 2) := by decide +kernel
theorem dX9_findSets_63 : decode cX9_findSets 63 = .ok (.lor, 1) := by decide +kernel
theorem dX9_findSets_64 : decode cX9_findSets 64 = .ok (.lstore 4, 2) := by decide +kernel
theorem dX9_findSets_66 : decode cX9_findSets 66 = .ok (.goto (-57), 3) := by decide +kernel
theorem dX9_findSets_69 : decode cX9_findSets 69 = .ok (.iload_n 3, 1) := by decide +kernel
theorem dX9_findSets_70 : decode cX9_findSets 70 = .ok (.ireturn, 1) := by decide +kernel
theorem dX9_choose_0 : decode cX9_choose 0 = .ok (.lconst 1, 1) := by decide +kernel
theorem dX9_choose_1 : decode cX9_choose 1 = .ok (.lstore_n 2, 1) := by decide +kernel
theorem dX9_choose_2 : decode cX9_choose 2 = .ok (.iload_n 1, 1) := by decide +kernel
theorem dX9_choose_3 : decode cX9_choose 3 = .ok (.iload_n 0, 1) := by decide +kernel
theorem dX9_choose_4 : decode cX9_choose 4 = .ok (.iload_n 1, 1) := by decide +kernel
theorem dX9_choose_5 : decode cX9_choose 5 = .ok (.isub, 1) := by decide +kernel
theorem dX9_choose_6 : decode cX9_choose 6 = .ok (.if_icmp .ge 7, 3) := by decide +kernel
theorem dX9_choose_9 : decode cX9_choose 9 = .ok (.iload_n 1, 1) := by decide +kernel
theorem dX9_choose_10 : decode cX9_choose 10 = .ok (.goto 6, 3) := by decide +kernel
theorem dX9_choose_13 : decode cX9_choose 13 = .ok (.iload_n 0, 1) := by decide +kernel
theorem dX9_choose_14 : decode cX9_choose 14 = .ok (.iload_n 1, 1) := by decide +kernel
theorem dX9_choose_15 : decode cX9_choose 15 = .ok (.isub, 1) := by decide +kernel
theorem dX9_choose_16 : decode cX9_choose 16 = .ok (.istore 4, 2) := by decide +kernel
theorem dX9_choose_18 : decode cX9_choose 18 = .ok (.iconst 1, 1) := by decide +kernel
theorem dX9_choose_19 : decode cX9_choose 19 = .ok (.istore 5, 2) := by decide +kernel
theorem dX9_choose_21 : decode cX9_choose 21 = .ok (.iload 5, 2) := by decide +kernel
theorem dX9_choose_23 : decode cX9_choose 23 = .ok (.iload 4, 2) := by decide +kernel
theorem dX9_choose_25 : decode cX9_choose 25 = .ok (.if_icmp .gt 32, 3) := by decide +kernel
theorem dX9_choose_28 : decode cX9_choose 28 = .ok (.lload_n 2, 1) := by decide +kernel
theorem dX9_choose_29 : decode cX9_choose 29 = .ok (.ldc2_w 145, 3) := by decide +kernel
theorem dX9_choose_32 : decode cX9_choose 32 = .ok (.lcmp, 1) := by decide +kernel
theorem dX9_choose_33 : decode cX9_choose 33 = .ok (.ifCond .gt 24, 3) := by decide +kernel
theorem dX9_choose_36 : decode cX9_choose 36 = .ok (.lload_n 2, 1) := by decide +kernel
theorem dX9_choose_37 : decode cX9_choose 37 = .ok (.iload_n 0, 1) := by decide +kernel
theorem dX9_choose_38 : decode cX9_choose 38 = .ok (.iload 4, 2) := by decide +kernel
theorem dX9_choose_40 : decode cX9_choose 40 = .ok (.isub, 1) := by decide +kernel
theorem dX9_choose_41 : decode cX9_choose 41 = .ok (.iload 5, 2) := by decide +kernel
theorem dX9_choose_43 : decode cX9_choose 43 = .ok (.iadd, 1) := by decide +kernel
theorem dX9_choose_44 : decode cX9_choose 44 = .ok (.i2l, 1) := by decide +kernel
theorem dX9_choose_45 : decode cX9_choose 45 = .ok (.lmul, 1) := by decide +kernel
theorem dX9_choose_46 : decode cX9_choose 46 = .ok (.iload 5, 2) := by decide +kernel
theorem dX9_choose_48 : decode cX9_choose 48 = .ok (.i2l, 1) := by decide +kernel
theorem dX9_choose_49 : decode cX9_choose 49 = .ok (.ldiv, 1) := by decide +kernel
theorem dX9_choose_50 : decode cX9_choose 50 = .ok (.lstore_n 2, 1) := by decide +kernel
theorem dX9_choose_51 : decode cX9_choose 51 = .ok (.iinc 5 1, 3) := by decide +kernel
theorem dX9_choose_54 : decode cX9_choose 54 = .ok (.goto (-33), 3) := by decide +kernel
theorem dX9_choose_57 : decode cX9_choose 57 = .ok (.lload_n 2, 1) := by decide +kernel
theorem dX9_choose_58 : decode cX9_choose 58 = .ok (.ldc2_w 132, 3) := by decide +kernel
theorem dX9_choose_61 : decode cX9_choose 61 = .ok (.lcmp, 1) := by decide +kernel
theorem dX9_choose_62 : decode cX9_choose 62 = .ok (.ifCond .le 8, 3) := by decide +kernel
theorem dX9_choose_65 : decode cX9_choose 65 = .ok (.bipush 33, 2) := by decide +kernel
theorem dX9_choose_67 : decode cX9_choose 67 = .ok (.goto 5, 3) := by decide +kernel
theorem dX9_choose_70 : decode cX9_choose 70 = .ok (.lload_n 2, 1) := by decide +kernel
theorem dX9_choose_71 : decode cX9_choose 71 = .ok (.l2i, 1) := by decide +kernel
theorem dX9_choose_72 : decode cX9_choose 72 = .ok (.ireturn, 1) := by decide +kernel
theorem dX9_power_0 : decode cX9_power 0 = .ok (.lconst 1, 1) := by decide +kernel
theorem dX9_power_1 : decode cX9_power 1 = .ok (.lstore_n 2, 1) := by decide +kernel
theorem dX9_power_2 : decode cX9_power 2 = .ok (.iconst 0, 1) := by decide +kernel
theorem dX9_power_3 : decode cX9_power 3 = .ok (.istore 4, 2) := by decide +kernel
theorem dX9_power_5 : decode cX9_power 5 = .ok (.iload 4, 2) := by decide +kernel
theorem dX9_power_7 : decode cX9_power 7 = .ok (.iload_n 1, 1) := by decide +kernel
theorem dX9_power_8 : decode cX9_power 8 = .ok (.if_icmp .ge 22, 3) := by decide +kernel
theorem dX9_power_11 : decode cX9_power 11 = .ok (.lload_n 2, 1) := by decide +kernel
theorem dX9_power_12 : decode cX9_power 12 = .ok (.ldc2_w 132, 3) := by decide +kernel
theorem dX9_power_15 : decode cX9_power 15 = .ok (.lcmp, 1) := by decide +kernel
theorem dX9_power_16 : decode cX9_power 16 = .ok (.ifCond .gt 14, 3) := by decide +kernel
theorem dX9_power_19 : decode cX9_power 19 = .ok (.lload_n 2, 1) := by decide +kernel
theorem dX9_power_20 : decode cX9_power 20 = .ok (.iload_n 0, 1) := by decide +kernel
theorem dX9_power_21 : decode cX9_power 21 = .ok (.i2l, 1) := by decide +kernel
theorem dX9_power_22 : decode cX9_power 22 = .ok (.lmul, 1) := by decide +kernel
theorem dX9_power_23 : decode cX9_power 23 = .ok (.lstore_n 2, 1) := by decide +kernel
theorem dX9_power_24 : decode cX9_power 24 = .ok (.iinc 4 1, 3) := by decide +kernel
theorem dX9_power_27 : decode cX9_power 27 = .ok (.goto (-22), 3) := by decide +kernel
theorem dX9_power_30 : decode cX9_power 30 = .ok (.lload_n 2, 1) := by decide +kernel
theorem dX9_power_31 : decode cX9_power 31 = .ok (.ldc2_w 132, 3) := by decide +kernel
theorem dX9_power_34 : decode cX9_power 34 = .ok (.lcmp, 1) := by decide +kernel
theorem dX9_power_35 : decode cX9_power 35 = .ok (.ifCond .le 8, 3) := by decide +kernel
theorem dX9_power_38 : decode cX9_power 38 = .ok (.bipush 33, 2) := by decide +kernel
theorem dX9_power_40 : decode cX9_power 40 = .ok (.goto 5, 3) := by decide +kernel
theorem dX9_power_43 : decode cX9_power 43 = .ok (.lload_n 2, 1) := by decide +kernel
theorem dX9_power_44 : decode cX9_power 44 = .ok (.l2i, 1) := by decide +kernel
theorem dX9_power_45 : decode cX9_power 45 = .ok (.ireturn, 1) := by decide +kernel
theorem dX9_unlikeLetters_0 : decode cX9_unlikeLetters 0 = .ok (.iconst 0, 1) := by decide +kernel
theorem dX9_unlikeLetters_1 : decode cX9_unlikeLetters 1 = .ok (.istore 4, 2) := by decide +kernel
theorem dX9_unlikeLetters_3 : decode cX9_unlikeLetters 3 = .ok (.iload_n 0, 1) := by decide +kernel
theorem dX9_unlikeLetters_4 : decode cX9_unlikeLetters 4 = .ok (.istore 5, 2) := by decide +kernel
theorem dX9_unlikeLetters_6 : decode cX9_unlikeLetters 6 = .ok (.iload_n 1, 1) := by decide +kernel
theorem dX9_unlikeLetters_7 : decode cX9_unlikeLetters 7 = .ok (.istore 6, 2) := by decide +kernel
theorem dX9_unlikeLetters_9 : decode cX9_unlikeLetters 9 = .ok (.iconst 0, 1) := by decide +kernel
theorem dX9_unlikeLetters_10 : decode cX9_unlikeLetters 10 = .ok (.istore 7, 2) := by decide +kernel
theorem dX9_unlikeLetters_12 : decode cX9_unlikeLetters 12 = .ok (.iload 7, 2) := by decide +kernel
theorem dX9_unlikeLetters_14 : decode cX9_unlikeLetters 14 = .ok (.iload_n 3, 1) := by decide +kernel
theorem dX9_unlikeLetters_15 : decode cX9_unlikeLetters 15 = .ok (.if_icmp .ge 42, 3) := by decide +kernel
theorem dX9_unlikeLetters_18 : decode cX9_unlikeLetters 18 = .ok (.iload 4, 2) := by decide +kernel
theorem dX9_unlikeLetters_20 : decode cX9_unlikeLetters 20 = .ok (.iload 5, 2) := by decide +kernel
theorem dX9_unlikeLetters_22 : decode cX9_unlikeLetters 22 = .ok (.iload_n 2, 1) := by decide +kernel
theorem dX9_unlikeLetters_23 : decode cX9_unlikeLetters 23 = .ok (.irem, 1) := by decide +kernel
theorem dX9_unlikeLetters_24 : decode cX9_unlikeLetters 24 = .ok (.iload 6, 2) := by decide +kernel
theorem dX9_unlikeLetters_26 : decode cX9_unlikeLetters 26 = .ok (.iload_n 2, 1) := by decide +kernel
theorem dX9_unlikeLetters_27 : decode cX9_unlikeLetters 27 = .ok (.irem, 1) := by decide +kernel
theorem dX9_unlikeLetters_28 : decode cX9_unlikeLetters 28 = .ok (.if_icmp .eq 7, 3) := by decide +kernel
theorem dX9_unlikeLetters_31 : decode cX9_unlikeLetters 31 = .ok (.iconst 1, 1) := by decide +kernel
theorem dX9_unlikeLetters_32 : decode cX9_unlikeLetters 32 = .ok (.goto 4, 3) := by decide +kernel
theorem dX9_unlikeLetters_35 : decode cX9_unlikeLetters 35 = .ok (.iconst 0, 1) := by decide +kernel
theorem dX9_unlikeLetters_36 : decode cX9_unlikeLetters 36 = .ok (.iadd, 1) := by decide +kernel
theorem dX9_unlikeLetters_37 : decode cX9_unlikeLetters 37 = .ok (.istore 4, 2) := by decide +kernel
theorem dX9_unlikeLetters_39 : decode cX9_unlikeLetters 39 = .ok (.iload 5, 2) := by decide +kernel
theorem dX9_unlikeLetters_41 : decode cX9_unlikeLetters 41 = .ok (.iload_n 2, 1) := by decide +kernel
theorem dX9_unlikeLetters_42 : decode cX9_unlikeLetters 42 = .ok (.idiv, 1) := by decide +kernel
theorem dX9_unlikeLetters_43 : decode cX9_unlikeLetters 43 = .ok (.istore 5, 2) := by decide +kernel
theorem dX9_unlikeLetters_45 : decode cX9_unlikeLetters 45 = .ok (.iload 6, 2) := by decide +kernel
theorem dX9_unlikeLetters_47 : decode cX9_unlikeLetters 47 = .ok (.iload_n 2, 1) := by decide +kernel
theorem dX9_unlikeLetters_48 : decode cX9_unlikeLetters 48 = .ok (.idiv, 1) := by decide +kernel
theorem dX9_unlikeLetters_49 : decode cX9_unlikeLetters 49 = .ok (.istore 6, 2) := by decide +kernel
theorem dX9_unlikeLetters_51 : decode cX9_unlikeLetters 51 = .ok (.iinc 7 1, 3) := by decide +kernel
theorem dX9_unlikeLetters_54 : decode cX9_unlikeLetters 54 = .ok (.goto (-42), 3) := by decide +kernel
theorem dX9_unlikeLetters_57 : decode cX9_unlikeLetters 57 = .ok (.iload 4, 2) := by decide +kernel
theorem dX9_unlikeLetters_59 : decode cX9_unlikeLetters 59 = .ok (.ireturn, 1) := by decide +kernel
theorem dX9_may_0 : decode cX9_may 0 = .ok (.iload_n 0, 1) := by decide +kernel
theorem dX9_may_1 : decode cX9_may 1 = .ok (.tableswitch 109 0 5 #[39, 50, 61, 77, 77, 93], 39) := by decide +kernel
theorem dX9_may_40 : decode cX9_may 40 = .ok (.iload_n 1, 1) := by decide +kernel
theorem dX9_may_41 : decode cX9_may 41 = .ok (.iconst 3, 1) := by decide +kernel
theorem dX9_may_42 : decode cX9_may 42 = .ok (.if_icmp .lt 7, 3) := by decide +kernel
theorem dX9_may_45 : decode cX9_may 45 = .ok (.iconst 1, 1) := by decide +kernel
theorem dX9_may_46 : decode cX9_may 46 = .ok (.goto 4, 3) := by decide +kernel
theorem dX9_may_49 : decode cX9_may 49 = .ok (.iconst 0, 1) := by decide +kernel
theorem dX9_may_50 : decode cX9_may 50 = .ok (.ireturn, 1) := by decide +kernel
theorem dX9_may_51 : decode cX9_may 51 = .ok (.iload_n 1, 1) := by decide +kernel
theorem dX9_may_52 : decode cX9_may 52 = .ok (.iconst 1, 1) := by decide +kernel
theorem dX9_may_53 : decode cX9_may 53 = .ok (.if_icmp .lt 7, 3) := by decide +kernel
theorem dX9_may_56 : decode cX9_may 56 = .ok (.iconst 1, 1) := by decide +kernel
theorem dX9_may_57 : decode cX9_may 57 = .ok (.goto 4, 3) := by decide +kernel
theorem dX9_may_60 : decode cX9_may 60 = .ok (.iconst 0, 1) := by decide +kernel
theorem dX9_may_61 : decode cX9_may 61 = .ok (.ireturn, 1) := by decide +kernel
theorem dX9_may_62 : decode cX9_may 62 = .ok (.iload_n 1, 1) := by decide +kernel
theorem dX9_may_63 : decode cX9_may 63 = .ok (.iconst 2, 1) := by decide +kernel
theorem dX9_may_64 : decode cX9_may 64 = .ok (.if_icmp .lt 12, 3) := by decide +kernel
theorem dX9_may_67 : decode cX9_may 67 = .ok (.iload_n 2, 1) := by decide +kernel
theorem dX9_may_68 : decode cX9_may 68 = .ok (.iconst 1, 1) := by decide +kernel
theorem dX9_may_69 : decode cX9_may 69 = .ok (.if_icmp .lt 7, 3) := by decide +kernel
theorem dX9_may_72 : decode cX9_may 72 = .ok (.iconst 1, 1) := by decide +kernel
theorem dX9_may_73 : decode cX9_may 73 = .ok (.goto 4, 3) := by decide +kernel
theorem dX9_may_76 : decode cX9_may 76 = .ok (.iconst 0, 1) := by decide +kernel
theorem dX9_may_77 : decode cX9_may 77 = .ok (.ireturn, 1) := by decide +kernel
theorem dX9_may_78 : decode cX9_may 78 = .ok (.iload_n 2, 1) := by decide +kernel
theorem dX9_may_79 : decode cX9_may 79 = .ok (.iconst 1, 1) := by decide +kernel
theorem dX9_may_80 : decode cX9_may 80 = .ok (.if_icmp .lt 12, 3) := by decide +kernel
theorem dX9_may_83 : decode cX9_may 83 = .ok (.iload_n 2, 1) := by decide +kernel
theorem dX9_may_84 : decode cX9_may 84 = .ok (.iload_n 1, 1) := by decide +kernel
theorem dX9_may_85 : decode cX9_may 85 = .ok (.if_icmp .ge 7, 3) := by decide +kernel
theorem dX9_may_88 : decode cX9_may 88 = .ok (.iconst 1, 1) := by decide +kernel
theorem dX9_may_89 : decode cX9_may 89 = .ok (.goto 4, 3) := by decide +kernel
theorem dX9_may_92 : decode cX9_may 92 = .ok (.iconst 0, 1) := by decide +kernel
theorem dX9_may_93 : decode cX9_may 93 = .ok (.ireturn, 1) := by decide +kernel
theorem dX9_may_94 : decode cX9_may 94 = .ok (.iload_n 1, 1) := by decide +kernel
theorem dX9_may_95 : decode cX9_may 95 = .ok (.iconst 1, 1) := by decide +kernel
theorem dX9_may_96 : decode cX9_may 96 = .ok (.if_icmp .lt 12, 3) := by decide +kernel
theorem dX9_may_99 : decode cX9_may 99 = .ok (.iload_n 2, 1) := by decide +kernel
theorem dX9_may_100 : decode cX9_may 100 = .ok (.iconst 1, 1) := by decide +kernel
theorem dX9_may_101 : decode cX9_may 101 = .ok (.if_icmp .lt 7, 3) := by decide +kernel
theorem dX9_may_104 : decode cX9_may 104 = .ok (.iconst 1, 1) := by decide +kernel
theorem dX9_may_105 : decode cX9_may 105 = .ok (.goto 4, 3) := by decide +kernel
theorem dX9_may_108 : decode cX9_may 108 = .ok (.iconst 0, 1) := by decide +kernel
theorem dX9_may_109 : decode cX9_may 109 = .ok (.ireturn, 1) := by decide +kernel
theorem dX9_may_110 : decode cX9_may 110 = .ok (.iconst 0, 1) := by decide +kernel
theorem dX9_may_111 : decode cX9_may 111 = .ok (.ireturn, 1) := by decide +kernel
set_option maxRecDepth 20000 in
theorem ggX9_sizeOf_X9_power : GoodIn wsX9_sizeOf wsX9_power := goodIn_r _ [4, 5] (by decide +kernel) (by decide +kernel)
set_option maxRecDepth 20000 in
theorem gX9_sizeOf_X9_power : GoodIn wsX9_sizeOf (va_wsS RX9 147 yX9_power wsX9_power) := goodIn_app (goodIn_of _ (by decide +kernel)) ggX9_sizeOf_X9_power
set_option maxRecDepth 20000 in
theorem ggX9_sizeOf_X9_choose : GoodIn wsX9_sizeOf wsX9_choose := goodIn_r _ [8, 9, 5] (by decide +kernel) (by decide +kernel)
set_option maxRecDepth 20000 in
theorem gX9_sizeOf_X9_choose : GoodIn wsX9_sizeOf (va_wsS RX9 151 yX9_choose wsX9_choose) := goodIn_app (goodIn_of _ (by decide +kernel)) ggX9_sizeOf_X9_choose
theorem dX9_sizeOf_0 : decode cX9_sizeOf 0 = .ok (.iload_n 0, 1) := by decide +kernel
theorem dX9_sizeOf_1 : decode cX9_sizeOf 1 = .ok (.iconst 2, 1) := by decide +kernel
theorem dX9_sizeOf_2 : decode cX9_sizeOf 2 = .ok (.if_icmp .ge 8, 3) := by decide +kernel
theorem dX9_sizeOf_5 : decode cX9_sizeOf 5 = .ok (.iload_n 1, 1) := by decide +kernel
theorem dX9_sizeOf_6 : decode cX9_sizeOf 6 = .ok (.i2l, 1) := by decide +kernel
theorem dX9_sizeOf_7 : decode cX9_sizeOf 7 = .ok (.goto 36, 3) := by decide +kernel
theorem dX9_sizeOf_10 : decode cX9_sizeOf 10 = .ok (.iload_n 0, 1) := by decide +kernel
theorem dX9_sizeOf_11 : decode cX9_sizeOf 11 = .ok (.iconst 2, 1) := by decide +kernel
theorem dX9_sizeOf_12 : decode cX9_sizeOf 12 = .ok (.if_icmp .ne 12, 3) := by decide +kernel
theorem dX9_sizeOf_15 : decode cX9_sizeOf 15 = .ok (.iload_n 1, 1) := by decide +kernel
theorem dX9_sizeOf_16 : decode cX9_sizeOf 16 = .ok (.iload_n 2, 1) := by decide +kernel
theorem dX9_sizeOf_17 : decode cX9_sizeOf 17 = .ok (.invokestatic 147, 3) := by decide +kernel
theorem dX9_sizeOf_20 : decode cX9_sizeOf 20 = .ok (.i2l, 1) := by decide +kernel
theorem dX9_sizeOf_21 : decode cX9_sizeOf 21 = .ok (.goto 22, 3) := by decide +kernel
theorem dX9_sizeOf_24 : decode cX9_sizeOf 24 = .ok (.iload_n 0, 1) := by decide +kernel
theorem dX9_sizeOf_25 : decode cX9_sizeOf 25 = .ok (.iconst 5, 1) := by decide +kernel
theorem dX9_sizeOf_26 : decode cX9_sizeOf 26 = .ok (.if_icmp .ge 12, 3) := by decide +kernel
theorem dX9_sizeOf_29 : decode cX9_sizeOf 29 = .ok (.iload_n 1, 1) := by decide +kernel
theorem dX9_sizeOf_30 : decode cX9_sizeOf 30 = .ok (.iload_n 2, 1) := by decide +kernel
theorem dX9_sizeOf_31 : decode cX9_sizeOf 31 = .ok (.invokestatic 151, 3) := by decide +kernel
theorem dX9_sizeOf_34 : decode cX9_sizeOf 34 = .ok (.i2l, 1) := by decide +kernel
theorem dX9_sizeOf_35 : decode cX9_sizeOf 35 = .ok (.goto 8, 3) := by decide +kernel
theorem dX9_sizeOf_38 : decode cX9_sizeOf 38 = .ok (.iload_n 1, 1) := by decide +kernel
theorem dX9_sizeOf_39 : decode cX9_sizeOf 39 = .ok (.i2l, 1) := by decide +kernel
theorem dX9_sizeOf_40 : decode cX9_sizeOf 40 = .ok (.iload_n 2, 1) := by decide +kernel
theorem dX9_sizeOf_41 : decode cX9_sizeOf 41 = .ok (.i2l, 1) := by decide +kernel
theorem dX9_sizeOf_42 : decode cX9_sizeOf 42 = .ok (.ladd, 1) := by decide +kernel
theorem dX9_sizeOf_43 : decode cX9_sizeOf 43 = .ok (.lreturn, 1) := by decide +kernel
set_option maxRecDepth 20000 in
theorem ggX9_isMade_X9_unlikeLetters : GoodIn wsX9_isMade wsX9_unlikeLetters := goodIn_r _ [5] (by decide +kernel) (by decide +kernel)
set_option maxRecDepth 20000 in
theorem gX9_isMade_X9_unlikeLetters : GoodIn wsX9_isMade (va_wsS RX9 154 yX9_unlikeLetters wsX9_unlikeLetters) := goodIn_app (goodIn_of _ (by decide +kernel)) ggX9_isMade_X9_unlikeLetters
set_option maxRecDepth 20000 in
theorem ggX9_isMade_X9_ones : GoodIn wsX9_isMade wsX9_ones := goodIn_r _ [8] (by decide +kernel) (by decide +kernel)
set_option maxRecDepth 20000 in
theorem gX9_isMade_X9_ones : GoodIn wsX9_isMade (va_wsS RX9 158 yX9_ones wsX9_ones) := goodIn_app (goodIn_of _ (by decide +kernel)) ggX9_isMade_X9_ones
theorem dX9_isMade_0 : decode cX9_isMade 0 = .ok (.iload_n 1, 1) := by decide +kernel
theorem dX9_isMade_1 : decode cX9_isMade 1 = .ok (.tableswitch 138 0 4 #[35, 63, 65, 84, 114], 35) := by decide +kernel
theorem dX9_isMade_36 : decode cX9_isMade 36 = .ok (.iload 4, 2) := by decide +kernel
theorem dX9_isMade_38 : decode cX9_isMade 38 = .ok (.iconst 1, 1) := by decide +kernel
theorem dX9_isMade_39 : decode cX9_isMade 39 = .ok (.iadd, 1) := by decide +kernel
theorem dX9_isMade_40 : decode cX9_isMade 40 = .ok (.iload_n 2, 1) := by decide +kernel
theorem dX9_isMade_41 : decode cX9_isMade 41 = .ok (.irem, 1) := by decide +kernel
theorem dX9_isMade_42 : decode cX9_isMade 42 = .ok (.iload 5, 2) := by decide +kernel
theorem dX9_isMade_44 : decode cX9_isMade 44 = .ok (.if_icmp .eq 14, 3) := by decide +kernel
theorem dX9_isMade_47 : decode cX9_isMade 47 = .ok (.iload 5, 2) := by decide +kernel
theorem dX9_isMade_49 : decode cX9_isMade 49 = .ok (.iconst 1, 1) := by decide +kernel
theorem dX9_isMade_50 : decode cX9_isMade 50 = .ok (.iadd, 1) := by decide +kernel
theorem dX9_isMade_51 : decode cX9_isMade 51 = .ok (.iload_n 2, 1) := by decide +kernel
theorem dX9_isMade_52 : decode cX9_isMade 52 = .ok (.irem, 1) := by decide +kernel
theorem dX9_isMade_53 : decode cX9_isMade 53 = .ok (.iload 4, 2) := by decide +kernel
theorem dX9_isMade_55 : decode cX9_isMade 55 = .ok (.if_icmp .ne 7, 3) := by decide +kernel
theorem dX9_isMade_58 : decode cX9_isMade 58 = .ok (.iconst 1, 1) := by decide +kernel
theorem dX9_isMade_59 : decode cX9_isMade 59 = .ok (.goto 4, 3) := by decide +kernel
theorem dX9_isMade_62 : decode cX9_isMade 62 = .ok (.iconst 0, 1) := by decide +kernel
theorem dX9_isMade_63 : decode cX9_isMade 63 = .ok (.ireturn, 1) := by decide +kernel
theorem dX9_isMade_64 : decode cX9_isMade 64 = .ok (.iconst 1, 1) := by decide +kernel
theorem dX9_isMade_65 : decode cX9_isMade 65 = .ok (.ireturn, 1) := by decide +kernel
theorem dX9_isMade_66 : decode cX9_isMade 66 = .ok (.iload 4, 2) := by decide +kernel
theorem dX9_isMade_68 : decode cX9_isMade 68 = .ok (.iload 5, 2) := by decide +kernel
theorem dX9_isMade_70 : decode cX9_isMade 70 = .ok (.iload_n 2, 1) := by decide +kernel
theorem dX9_isMade_71 : decode cX9_isMade 71 = .ok (.iload_n 3, 1) := by decide +kernel
theorem dX9_isMade_72 : decode cX9_isMade 72 = .ok (.invokestatic 154, 3) := by decide +kernel
theorem dX9_isMade_75 : decode cX9_isMade 75 = .ok (.iconst 1, 1) := by decide +kernel
theorem dX9_isMade_76 : decode cX9_isMade 76 = .ok (.if_icmp .ne 7, 3) := by decide +kernel
theorem dX9_isMade_79 : decode cX9_isMade 79 = .ok (.iconst 1, 1) := by decide +kernel
theorem dX9_isMade_80 : decode cX9_isMade 80 = .ok (.goto 4, 3) := by decide +kernel
theorem dX9_isMade_83 : decode cX9_isMade 83 = .ok (.iconst 0, 1) := by decide +kernel
theorem dX9_isMade_84 : decode cX9_isMade 84 = .ok (.ireturn, 1) := by decide +kernel
theorem dX9_isMade_85 : decode cX9_isMade 85 = .ok (.aload_n 0, 1) := by decide +kernel
theorem dX9_isMade_86 : decode cX9_isMade 86 = .ok (.getfield 36, 3) := by decide +kernel
theorem dX9_isMade_89 : decode cX9_isMade 89 = .ok (.iload 4, 2) := by decide +kernel
theorem dX9_isMade_91 : decode cX9_isMade 91 = .ok (.iaload, 1) := by decide +kernel
theorem dX9_isMade_92 : decode cX9_isMade 92 = .ok (.aload_n 0, 1) := by decide +kernel
theorem dX9_isMade_93 : decode cX9_isMade 93 = .ok (.getfield 36, 3) := by decide +kernel
theorem dX9_isMade_96 : decode cX9_isMade 96 = .ok (.iload 5, 2) := by decide +kernel
theorem dX9_isMade_98 : decode cX9_isMade 98 = .ok (.iaload, 1) := by decide +kernel
theorem dX9_isMade_99 : decode cX9_isMade 99 = .ok (.iand, 1) := by decide +kernel
theorem dX9_isMade_100 : decode cX9_isMade 100 = .ok (.invokestatic 158, 3) := by decide +kernel
theorem dX9_isMade_103 : decode cX9_isMade 103 = .ok (.iload_n 3, 1) := by decide +kernel
theorem dX9_isMade_104 : decode cX9_isMade 104 = .ok (.iconst 1, 1) := by decide +kernel
theorem dX9_isMade_105 : decode cX9_isMade 105 = .ok (.isub, 1) := by decide +kernel
theorem dX9_isMade_106 : decode cX9_isMade 106 = .ok (.if_icmp .ne 7, 3) := by decide +kernel
theorem dX9_isMade_109 : decode cX9_isMade 109 = .ok (.iconst 1, 1) := by decide +kernel
theorem dX9_isMade_110 : decode cX9_isMade 110 = .ok (.goto 4, 3) := by decide +kernel
theorem dX9_isMade_113 : decode cX9_isMade 113 = .ok (.iconst 0, 1) := by decide +kernel
theorem dX9_isMade_114 : decode cX9_isMade 114 = .ok (.ireturn, 1) := by decide +kernel
theorem dX9_isMade_115 : decode cX9_isMade 115 = .ok (.aload_n 0, 1) := by decide +kernel
theorem dX9_isMade_116 : decode cX9_isMade 116 = .ok (.getfield 36, 3) := by decide +kernel
theorem dX9_isMade_119 : decode cX9_isMade 119 = .ok (.iload 4, 2) := by decide +kernel
theorem dX9_isMade_121 : decode cX9_isMade 121 = .ok (.iaload, 1) := by decide +kernel
theorem dX9_isMade_122 : decode cX9_isMade 122 = .ok (.aload_n 0, 1) := by decide +kernel
theorem dX9_isMade_123 : decode cX9_isMade 123 = .ok (.getfield 36, 3) := by decide +kernel
theorem dX9_isMade_126 : decode cX9_isMade 126 = .ok (.iload 5, 2) := by decide +kernel
theorem dX9_isMade_128 : decode cX9_isMade 128 = .ok (.iaload, 1) := by decide +kernel
theorem dX9_isMade_129 : decode cX9_isMade 129 = .ok (.iand, 1) := by decide +kernel
theorem dX9_isMade_130 : decode cX9_isMade 130 = .ok (.ifCond .ne 7, 3) := by decide +kernel
theorem dX9_isMade_133 : decode cX9_isMade 133 = .ok (.iconst 1, 1) := by decide +kernel
theorem dX9_isMade_134 : decode cX9_isMade 134 = .ok (.goto 4, 3) := by decide +kernel
theorem dX9_isMade_137 : decode cX9_isMade 137 = .ok (.iconst 0, 1) := by decide +kernel
theorem dX9_isMade_138 : decode cX9_isMade 138 = .ok (.ireturn, 1) := by decide +kernel
theorem dX9_isMade_139 : decode cX9_isMade 139 = .ok (.iload 4, 2) := by decide +kernel
theorem dX9_isMade_141 : decode cX9_isMade 141 = .ok (.iload_n 2, 1) := by decide +kernel
theorem dX9_isMade_142 : decode cX9_isMade 142 = .ok (.if_icmp .ge 7, 3) := by decide +kernel
theorem dX9_isMade_145 : decode cX9_isMade 145 = .ok (.iconst 1, 1) := by decide +kernel
theorem dX9_isMade_146 : decode cX9_isMade 146 = .ok (.goto 4, 3) := by decide +kernel
theorem dX9_isMade_149 : decode cX9_isMade 149 = .ok (.iconst 0, 1) := by decide +kernel
theorem dX9_isMade_150 : decode cX9_isMade 150 = .ok (.iload 5, 2) := by decide +kernel
theorem dX9_isMade_152 : decode cX9_isMade 152 = .ok (.iload_n 2, 1) := by decide +kernel
theorem dX9_isMade_153 : decode cX9_isMade 153 = .ok (.if_icmp .ge 7, 3) := by decide +kernel
theorem dX9_isMade_156 : decode cX9_isMade 156 = .ok (.iconst 1, 1) := by decide +kernel
theorem dX9_isMade_157 : decode cX9_isMade 157 = .ok (.goto 4, 3) := by decide +kernel
theorem dX9_isMade_160 : decode cX9_isMade 160 = .ok (.iconst 0, 1) := by decide +kernel
theorem dX9_isMade_161 : decode cX9_isMade 161 = .ok (.if_icmp .eq 7, 3) := by decide +kernel
theorem dX9_isMade_164 : decode cX9_isMade 164 = .ok (.iconst 1, 1) := by decide +kernel
theorem dX9_isMade_165 : decode cX9_isMade 165 = .ok (.goto 4, 3) := by decide +kernel
theorem dX9_isMade_168 : decode cX9_isMade 168 = .ok (.iconst 0, 1) := by decide +kernel
theorem dX9_isMade_169 : decode cX9_isMade 169 = .ok (.ireturn, 1) := by decide +kernel
set_option maxRecDepth 20000 in
theorem ggX9_build_X9_may : GoodIn wsX9_build wsX9_may := goodIn_r _ [6] (by decide +kernel) (by decide +kernel)
set_option maxRecDepth 20000 in
theorem gX9_build_X9_may : GoodIn wsX9_build (va_wsS RX9 162 yX9_may wsX9_may) := goodIn_app (goodIn_of _ (by decide +kernel)) ggX9_build_X9_may
set_option maxRecDepth 20000 in
theorem ggX9_build_X9_sizeOf : GoodIn wsX9_build wsX9_sizeOf := goodIn_r _ [9, 10, 11, 5, 12, 1, 13, 14, 15, 16] (by decide +kernel) (by decide +kernel)
set_option maxRecDepth 20000 in
theorem gX9_build_X9_sizeOf : GoodIn wsX9_build (va_wsS RX9 166 yX9_sizeOf wsX9_sizeOf) := goodIn_app (goodIn_of _ (by decide +kernel)) ggX9_build_X9_sizeOf
set_option maxRecDepth 20000 in
theorem ggX9_build_X9_findSets : GoodIn wsX9_build wsX9_findSets := goodIn_r _ [20, 21, 43, 44, 45, 46, 47, 48, 49, 50, 51, 52, 53, 54, 55, 56, 57, 58, 59, 60, 61, 62, 63, 64, 65, 66, 67, 68, 69, 70, 71, 72, 73, 74, 75, 76, 77, 78, 79, 80, 81, 82, 83, 84, 85, 86] (by decide +kernel) (by decide +kernel)
set_option maxRecDepth 20000 in
theorem gX9_build_X9_findSets : GoodIn wsX9_build (wsV RX9 170 RX9 yX9_findSets wsX9_findSets) := goodIn_app (goodIn_of _ (by decide +kernel)) ggX9_build_X9_findSets
set_option maxRecDepth 20000 in
theorem ggX9_build_X9_fresh : GoodIn wsX9_build wsX9_fresh := goodIn_r _ [25, 2, 26, 27, 28, 43, 44, 45, 46, 47, 48, 49, 50, 51, 52, 53, 54, 55, 56, 57, 58, 59, 60, 61, 62, 63, 64, 65, 66, 67, 68, 69, 70, 71, 72, 73, 74, 75, 76, 77, 78, 79, 80, 81, 82, 83, 84, 85, 86] (by decide +kernel) (by decide +kernel)
set_option maxRecDepth 20000 in
theorem gX9_build_X9_fresh : GoodIn wsX9_build (wsV RX9 134 RX9 yX9_fresh wsX9_fresh) := goodIn_app (goodIn_of _ (by decide +kernel)) ggX9_build_X9_fresh
set_option maxRecDepth 20000 in
theorem ggX9_build_X9_isMade : GoodIn wsX9_build wsX9_isMade := goodIn_r _ [32, 21, 33, 34, 5, 35, 36, 37, 38, 43, 44, 45, 46, 47, 48, 49, 50, 51, 52, 53, 54, 55, 56, 57, 58, 59, 60, 61, 62, 63, 64, 65, 66, 67, 68, 69, 70, 71, 72, 73, 74, 75, 76, 77, 78, 79, 80, 81, 82, 83, 84, 85, 86] (by decide +kernel) (by decide +kernel)
set_option maxRecDepth 20000 in
theorem gX9_build_X9_isMade : GoodIn wsX9_build (wsV RX9 173 RX9 yX9_isMade wsX9_isMade) := goodIn_app (goodIn_of _ (by decide +kernel)) ggX9_build_X9_isMade
set_option maxRecDepth 20000 in
theorem ggX9_build_X9_lay : GoodIn wsX9_build wsX9_lay := goodIn_r _ [42, 26, 27, 28, 43, 44, 45, 46, 47, 48, 49, 50, 51, 52, 53, 54, 55, 56, 57, 58, 59, 60, 61, 62, 63, 64, 65, 66, 67, 68, 69, 70, 71, 72, 73, 74, 75, 76, 77, 78, 79, 80, 81, 82, 83, 84, 85, 86] (by decide +kernel) (by decide +kernel)
set_option maxRecDepth 20000 in
theorem gX9_build_X9_lay : GoodIn wsX9_build (wsV RX9 141 RX9 yX9_lay wsX9_lay) := goodIn_app (goodIn_of _ (by decide +kernel)) ggX9_build_X9_lay
theorem dX9_build_0 : decode cX9_build 0 = .ok (.iload_n 1, 1) := by decide +kernel
theorem dX9_build_1 : decode cX9_build 1 = .ok (.iload_n 2, 1) := by decide +kernel
theorem dX9_build_2 : decode cX9_build 2 = .ok (.iload_n 3, 1) := by decide +kernel
theorem dX9_build_3 : decode cX9_build 3 = .ok (.invokestatic 162, 3) := by decide +kernel
theorem dX9_build_6 : decode cX9_build 6 = .ok (.ifCond .ne 5, 3) := by decide +kernel
theorem dX9_build_9 : decode cX9_build 9 = .ok (.iconst (-1), 1) := by decide +kernel
theorem dX9_build_10 : decode cX9_build 10 = .ok (.ireturn, 1) := by decide +kernel
theorem dX9_build_11 : decode cX9_build 11 = .ok (.iload_n 1, 1) := by decide +kernel
theorem dX9_build_12 : decode cX9_build 12 = .ok (.iload_n 2, 1) := by decide +kernel
theorem dX9_build_13 : decode cX9_build 13 = .ok (.iload_n 3, 1) := by decide +kernel
theorem dX9_build_14 : decode cX9_build 14 = .ok (.invokestatic 166, 3) := by decide +kernel
theorem dX9_build_17 : decode cX9_build 17 = .ok (.lstore 4, 2) := by decide +kernel
theorem dX9_build_19 : decode cX9_build 19 = .ok (.lload 4, 2) := by decide +kernel
theorem dX9_build_21 : decode cX9_build 21 = .ok (.ldc2_w 132, 3) := by decide +kernel
