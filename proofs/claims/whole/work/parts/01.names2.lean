theorem dX3_keyOf_15 : decode cX3_keyOf 15 = .ok (.aload_n 0, 1) := by decide +kernel
theorem dX3_keyOf_16 : decode cX3_keyOf 16 = .ok (.getfield 9, 3) := by decide +kernel
theorem dX3_keyOf_19 : decode cX3_keyOf 19 = .ok (.iload_n 2, 1) := by decide +kernel
theorem dX3_keyOf_20 : decode cX3_keyOf 20 = .ok (.bipush 32, 2) := by decide +kernel
theorem dX3_keyOf_22 : decode cX3_keyOf 22 = .ok (.imul, 1) := by decide +kernel
theorem dX3_keyOf_23 : decode cX3_keyOf 23 = .ok (.iload_n 3, 1) := by decide +kernel
theorem dX3_keyOf_24 : decode cX3_keyOf 24 = .ok (.iadd, 1) := by decide +kernel
theorem dX3_keyOf_25 : decode cX3_keyOf 25 = .ok (.iaload, 1) := by decide +kernel
theorem dX3_keyOf_26 : decode cX3_keyOf 26 = .ok (.iadd, 1) := by decide +kernel
theorem dX3_keyOf_27 : decode cX3_keyOf 27 = .ok (.ireturn, 1) := by decide +kernel
set_option maxRecDepth 20000 in
theorem ggX3_sumOf_X3_keyOf : GoodIn wsX3_sumOf wsX3_keyOf := goodIn_r _ [6, 7, 12, 13, 14, 15, 16, 17, 18, 19, 20, 21, 22] (by decide +kernel) (by decide +kernel)
set_option maxRecDepth 20000 in
theorem gX3_sumOf_X3_keyOf : GoodIn wsX3_sumOf (wsV RX3 90 RX3 yX3_keyOf wsX3_keyOf) := goodIn_app (goodIn_of _ (by decide +kernel)) ggX3_sumOf_X3_keyOf
set_option maxRecDepth 20000 in
theorem ggX3_sumOf_X3_stir : GoodIn wsX3_sumOf wsX3_stir := goodIn_r _ [10, 11] (by decide +kernel) (by decide +kernel)
set_option maxRecDepth 20000 in
theorem gX3_sumOf_X3_stir : GoodIn wsX3_sumOf (va_wsS RX3 94 yX3_stir wsX3_stir) := goodIn_app (goodIn_of _ (by decide +kernel)) ggX3_sumOf_X3_stir
theorem dX3_sumOf_0 : decode cX3_sumOf 0 = .ok (.lconst 0, 1) := by decide +kernel
theorem dX3_sumOf_1 : decode cX3_sumOf 1 = .ok (.lstore_n 3, 1) := by decide +kernel
theorem dX3_sumOf_2 : decode cX3_sumOf 2 = .ok (.iconst 0, 1) := by decide +kernel
theorem dX3_sumOf_3 : decode cX3_sumOf 3 = .ok (.istore 5, 2) := by decide +kernel
theorem dX3_sumOf_5 : decode cX3_sumOf 5 = .ok (.iload 5, 2) := by decide +kernel
theorem dX3_sumOf_7 : decode cX3_sumOf 7 = .ok (.aload_n 0, 1) := by decide +kernel
theorem dX3_sumOf_8 : decode cX3_sumOf 8 = .ok (.getfield 47, 3) := by decide +kernel
theorem dX3_sumOf_11 : decode cX3_sumOf 11 = .ok (.if_icmp .ge 23, 3) := by decide +kernel
theorem dX3_sumOf_14 : decode cX3_sumOf 14 = .ok (.lload_n 3, 1) := by decide +kernel
theorem dX3_sumOf_15 : decode cX3_sumOf 15 = .ok (.aload_n 0, 1) := by decide +kernel
theorem dX3_sumOf_16 : decode cX3_sumOf 16 = .ok (.iload_n 1, 1) := by decide +kernel
theorem dX3_sumOf_17 : decode cX3_sumOf 17 = .ok (.iload 5, 2) := by decide +kernel
theorem dX3_sumOf_19 : decode cX3_sumOf 19 = .ok (.iload_n 2, 1) := by decide +kernel
theorem dX3_sumOf_20 : decode cX3_sumOf 20 = .ok (.invokevirtual 90, 3) := by decide +kernel
theorem dX3_sumOf_23 : decode cX3_sumOf 23 = .ok (.invokestatic 94, 3) := by decide +kernel
theorem dX3_sumOf_26 : decode cX3_sumOf 26 = .ok (.ladd, 1) := by decide +kernel
theorem dX3_sumOf_27 : decode cX3_sumOf 27 = .ok (.lstore_n 3, 1) := by decide +kernel
theorem dX3_sumOf_28 : decode cX3_sumOf 28 = .ok (.iinc 5 1, 3) := by decide +kernel
theorem dX3_sumOf_31 : decode cX3_sumOf 31 = .ok (.goto (-26), 3) := by decide +kernel
theorem dX3_sumOf_34 : decode cX3_sumOf 34 = .ok (.lload_n 3, 1) := by decide +kernel
theorem dX3_sumOf_35 : decode cX3_sumOf 35 = .ok (.lreturn, 1) := by decide +kernel
theorem dX3_stir_0 : decode cX3_stir 0 = .ok (.iload_n 0, 1) := by decide +kernel
theorem dX3_stir_1 : decode cX3_stir 1 = .ok (.iconst 1, 1) := by decide +kernel
theorem dX3_stir_2 : decode cX3_stir 2 = .ok (.iadd, 1) := by decide +kernel
theorem dX3_stir_3 : decode cX3_stir 3 = .ok (.i2l, 1) := by decide +kernel
theorem dX3_stir_4 : decode cX3_stir 4 = .ok (.ldc2_w 98, 3) := by decide +kernel
theorem dX3_stir_7 : decode cX3_stir 7 = .ok (.lmul, 1) := by decide +kernel
theorem dX3_stir_8 : decode cX3_stir 8 = .ok (.lstore_n 1, 1) := by decide +kernel
theorem dX3_stir_9 : decode cX3_stir 9 = .ok (.lload_n 1, 1) := by decide +kernel
theorem dX3_stir_10 : decode cX3_stir 10 = .ok (.lload_n 1, 1) := by decide +kernel
theorem dX3_stir_11 : decode cX3_stir 11 = .ok (.bipush 32, 2) := by decide +kernel
theorem dX3_stir_13 : decode cX3_stir 13 = .ok (.lushr, 1) := by decide +kernel
theorem dX3_stir_14 : decode cX3_stir 14 = .ok (.lxor, 1) := by decide +kernel
theorem dX3_stir_15 : decode cX3_stir 15 = .ok (.lstore_n 1, 1) := by decide +kernel
theorem dX3_stir_16 : decode cX3_stir 16 = .ok (.lload_n 1, 1) := by decide +kernel
theorem dX3_stir_17 : decode cX3_stir 17 = .ok (.lload_n 1, 1) := by decide +kernel
theorem dX3_stir_18 : decode cX3_stir 18 = .ok (.lmul, 1) := by decide +kernel
theorem dX3_stir_19 : decode cX3_stir 19 = .ok (.lreturn, 1) := by decide +kernel
set_option maxRecDepth 20000 in
theorem ggX3_isAlike_X3_gather : GoodIn wsX3_isAlike wsX3_gather := goodIn_r _ [8, 3, 9, 10, 11, 7, 12, 13, 14, 15, 16, 17, 18, 19, 20, 21, 22, 23, 24] (by decide +kernel) (by decide +kernel)
set_option maxRecDepth 20000 in
theorem gX3_isAlike_X3_gather : GoodIn wsX3_isAlike (wsV RX3 100 RX3 yX3_gather wsX3_gather) := goodIn_app (goodIn_of _ (by decide +kernel)) ggX3_isAlike_X3_gather
theorem dX3_isAlike_0 : decode cX3_isAlike 0 = .ok (.aload_n 0, 1) := by decide +kernel
theorem dX3_isAlike_1 : decode cX3_isAlike 1 = .ok (.aload_n 0, 1) := by decide +kernel
theorem dX3_isAlike_2 : decode cX3_isAlike 2 = .ok (.getfield 31, 3) := by decide +kernel
theorem dX3_isAlike_5 : decode cX3_isAlike 5 = .ok (.iload_n 1, 1) := by decide +kernel
theorem dX3_isAlike_6 : decode cX3_isAlike 6 = .ok (.invokevirtual 100, 3) := by decide +kernel
theorem dX3_isAlike_9 : decode cX3_isAlike 9 = .ok (.aload_n 0, 1) := by decide +kernel
theorem dX3_isAlike_10 : decode cX3_isAlike 10 = .ok (.aload_n 0, 1) := by decide +kernel
theorem dX3_isAlike_11 : decode cX3_isAlike 11 = .ok (.getfield 34, 3) := by decide +kernel
theorem dX3_isAlike_14 : decode cX3_isAlike 14 = .ok (.iload_n 2, 1) := by decide +kernel
theorem dX3_isAlike_15 : decode cX3_isAlike 15 = .ok (.invokevirtual 100, 3) := by decide +kernel
theorem dX3_isAlike_18 : decode cX3_isAlike 18 = .ok (.iconst 0, 1) := by decide +kernel
theorem dX3_isAlike_19 : decode cX3_isAlike 19 = .ok (.istore_n 3, 1) := by decide +kernel
theorem dX3_isAlike_20 : decode cX3_isAlike 20 = .ok (.iload_n 3, 1) := by decide +kernel
theorem dX3_isAlike_21 : decode cX3_isAlike 21 = .ok (.aload_n 0, 1) := by decide +kernel
theorem dX3_isAlike_22 : decode cX3_isAlike 22 = .ok (.getfield 47, 3) := by decide +kernel
theorem dX3_isAlike_25 : decode cX3_isAlike 25 = .ok (.if_icmp .ge 26, 3) := by decide +kernel
theorem dX3_isAlike_28 : decode cX3_isAlike 28 = .ok (.aload_n 0, 1) := by decide +kernel
theorem dX3_isAlike_29 : decode cX3_isAlike 29 = .ok (.getfield 31, 3) := by decide +kernel
theorem dX3_isAlike_32 : decode cX3_isAlike 32 = .ok (.iload_n 3, 1) := by decide +kernel
theorem dX3_isAlike_33 : decode cX3_isAlike 33 = .ok (.iaload, 1) := by decide +kernel
theorem dX3_isAlike_34 : decode cX3_isAlike 34 = .ok (.aload_n 0, 1) := by decide +kernel
theorem dX3_isAlike_35 : decode cX3_isAlike 35 = .ok (.getfield 34, 3) := by decide +kernel
theorem dX3_isAlike_38 : decode cX3_isAlike 38 = .ok (.iload_n 3, 1) := by decide +kernel
theorem dX3_isAlike_39 : decode cX3_isAlike 39 = .ok (.iaload, 1) := by decide +kernel
theorem dX3_isAlike_40 : decode cX3_isAlike 40 = .ok (.if_icmp .eq 5, 3) := by decide +kernel
theorem dX3_isAlike_43 : decode cX3_isAlike 43 = .ok (.iconst 0, 1) := by decide +kernel
theorem dX3_isAlike_44 : decode cX3_isAlike 44 = .ok (.ireturn, 1) := by decide +kernel
theorem dX3_isAlike_45 : decode cX3_isAlike 45 = .ok (.iinc 3 1, 3) := by decide +kernel
theorem dX3_isAlike_48 : decode cX3_isAlike 48 = .ok (.goto (-28), 3) := by decide +kernel
theorem dX3_isAlike_51 : decode cX3_isAlike 51 = .ok (.iconst 1, 1) := by decide +kernel
theorem dX3_isAlike_52 : decode cX3_isAlike 52 = .ok (.ireturn, 1) := by decide +kernel
set_option maxRecDepth 20000 in
theorem ggX3_gather_X3_keyOf : GoodIn wsX3_gather wsX3_keyOf := goodIn_r _ [6, 7, 8, 9, 10, 11, 12, 13, 14, 15, 16, 17, 18] (by decide +kernel) (by decide +kernel)
set_option maxRecDepth 20000 in
theorem gX3_gather_X3_keyOf : GoodIn wsX3_gather (wsV RX3 90 RX3 yX3_keyOf wsX3_keyOf) := goodIn_app (goodIn_of _ (by decide +kernel)) ggX3_gather_X3_keyOf
theorem dX3_gather_0 : decode cX3_gather 0 = .ok (.iload_n 2, 1) := by decide +kernel
theorem dX3_gather_1 : decode cX3_gather 1 = .ok (.bipush 32, 2) := by decide +kernel
theorem dX3_gather_3 : decode cX3_gather 3 = .ok (.idiv, 1) := by decide +kernel
theorem dX3_gather_4 : decode cX3_gather 4 = .ok (.istore_n 3, 1) := by decide +kernel
theorem dX3_gather_5 : decode cX3_gather 5 = .ok (.iload_n 2, 1) := by decide +kernel
theorem dX3_gather_6 : decode cX3_gather 6 = .ok (.bipush 32, 2) := by decide +kernel
theorem dX3_gather_8 : decode cX3_gather 8 = .ok (.irem, 1) := by decide +kernel
theorem dX3_gather_9 : decode cX3_gather 9 = .ok (.istore 4, 2) := by decide +kernel
theorem dX3_gather_11 : decode cX3_gather 11 = .ok (.iconst 0, 1) := by decide +kernel
theorem dX3_gather_12 : decode cX3_gather 12 = .ok (.istore 5, 2) := by decide +kernel
theorem dX3_gather_14 : decode cX3_gather 14 = .ok (.iload 5, 2) := by decide +kernel
theorem dX3_gather_16 : decode cX3_gather 16 = .ok (.aload_n 0, 1) := by decide +kernel
theorem dX3_gather_17 : decode cX3_gather 17 = .ok (.getfield 47, 3) := by decide +kernel
theorem dX3_gather_20 : decode cX3_gather 20 = .ok (.if_icmp .ge 62, 3) := by decide +kernel
theorem dX3_gather_23 : decode cX3_gather 23 = .ok (.aload_n 0, 1) := by decide +kernel
theorem dX3_gather_24 : decode cX3_gather 24 = .ok (.iload_n 3, 1) := by decide +kernel
theorem dX3_gather_25 : decode cX3_gather 25 = .ok (.iload 5, 2) := by decide +kernel
theorem dX3_gather_27 : decode cX3_gather 27 = .ok (.iload 4, 2) := by decide +kernel
theorem dX3_gather_29 : decode cX3_gather 29 = .ok (.invokevirtual 90, 3) := by decide +kernel
theorem dX3_gather_32 : decode cX3_gather 32 = .ok (.istore 6, 2) := by decide +kernel
theorem dX3_gather_34 : decode cX3_gather 34 = .ok (.iload 5, 2) := by decide +kernel
theorem dX3_gather_36 : decode cX3_gather 36 = .ok (.istore 7, 2) := by decide +kernel
theorem dX3_gather_38 : decode cX3_gather 38 = .ok (.iload 7, 2) := by decide +kernel
theorem dX3_gather_40 : decode cX3_gather 40 = .ok (.ifCond .le 30, 3) := by decide +kernel
theorem dX3_gather_43 : decode cX3_gather 43 = .ok (.aload_n 1, 1) := by decide +kernel
theorem dX3_gather_44 : decode cX3_gather 44 = .ok (.iload 7, 2) := by decide +kernel
theorem dX3_gather_46 : decode cX3_gather 46 = .ok (.iconst 1, 1) := by decide +kernel
theorem dX3_gather_47 : decode cX3_gather 47 = .ok (.isub, 1) := by decide +kernel
theorem dX3_gather_48 : decode cX3_gather 48 = .ok (.iaload, 1) := by decide +kernel
theorem dX3_gather_49 : decode cX3_gather 49 = .ok (.iload 6, 2) := by decide +kernel
theorem dX3_gather_51 : decode cX3_gather 51 = .ok (.if_icmp .le 19, 3) := by decide +kernel
theorem dX3_gather_54 : decode cX3_gather 54 = .ok (.aload_n 1, 1) := by decide +kernel
theorem dX3_gather_55 : decode cX3_gather 55 = .ok (.iload 7, 2) := by decide +kernel
theorem dX3_gather_57 : decode cX3_gather 57 = .ok (.aload_n 1, 1) := by decide +kernel
theorem dX3_gather_58 : decode cX3_gather 58 = .ok (.iload 7, 2) := by decide +kernel
theorem dX3_gather_60 : decode cX3_gather 60 = .ok (.iconst 1, 1) := by decide +kernel
theorem dX3_gather_61 : decode cX3_gather 61 = .ok (.isub, 1) := by decide +kernel
theorem dX3_gather_62 : decode cX3_gather 62 = .ok (.iaload, 1) := by decide +kernel
theorem dX3_gather_63 : decode cX3_gather 63 = .ok (.iastore, 1) := by decide +kernel
theorem dX3_gather_64 : decode cX3_gather 64 = .ok (.iinc 7 (-1), 3) := by decide +kernel
theorem dX3_gather_67 : decode cX3_gather 67 = .ok (.goto (-29), 3) := by decide +kernel
theorem dX3_gather_70 : decode cX3_gather 70 = .ok (.aload_n 1, 1) := by decide +kernel
theorem dX3_gather_71 : decode cX3_gather 71 = .ok (.iload 7, 2) := by decide +kernel
theorem dX3_gather_73 : decode cX3_gather 73 = .ok (.iload 6, 2) := by decide +kernel
theorem dX3_gather_75 : decode cX3_gather 75 = .ok (.iastore, 1) := by decide +kernel
theorem dX3_gather_76 : decode cX3_gather 76 = .ok (.iinc 5 1, 3) := by decide +kernel
theorem dX3_gather_79 : decode cX3_gather 79 = .ok (.goto (-65), 3) := by decide +kernel
theorem dX3_gather_82 : decode cX3_gather 82 = .ok (.return_, 1) := by decide +kernel
theorem dX4_init_0 : decode cX4_init 0 = .ok (.aload_n 0, 1) := by decide +kernel
theorem dX4_init_1 : decode cX4_init 1 = .ok (.invokespecial 3, 3) := by decide +kernel
theorem dX4_init_4 : decode cX4_init 4 = .ok (.aload_n 0, 1) := by decide +kernel
theorem dX4_init_5 : decode cX4_init 5 = .ok (.bipush 32, 2) := by decide +kernel
theorem dX4_init_7 : decode cX4_init 7 = .ok (.newarray .int, 2) := by decide +kernel
theorem dX4_init_9 : decode cX4_init 9 = .ok (.putfield 9, 3) := by decide +kernel
theorem dX4_init_12 : decode cX4_init 12 = .ok (.aload_n 0, 1) := by decide +kernel
theorem dX4_init_13 : decode cX4_init 13 = .ok (.bipush 32, 2) := by decide +kernel
theorem dX4_init_15 : decode cX4_init 15 = .ok (.newarray .int, 2) := by decide +kernel
theorem dX4_init_17 : decode cX4_init 17 = .ok (.putfield 15, 3) := by decide +kernel
theorem dX4_init_20 : decode cX4_init 20 = .ok (.aload_n 0, 1) := by decide +kernel
theorem dX4_init_21 : decode cX4_init 21 = .ok (.bipush 32, 2) := by decide +kernel
theorem dX4_init_23 : decode cX4_init 23 = .ok (.newarray .int, 2) := by decide +kernel
theorem dX4_init_25 : decode cX4_init 25 = .ok (.putfield 18, 3) := by decide +kernel
theorem dX4_init_28 : decode cX4_init 28 = .ok (.aload_n 0, 1) := by decide +kernel
theorem dX4_init_29 : decode cX4_init 29 = .ok (.iconst (-1), 1) := by decide +kernel
theorem dX4_init_30 : decode cX4_init 30 = .ok (.putfield 21, 3) := by decide +kernel
theorem dX4_init_33 : decode cX4_init 33 = .ok (.return_, 1) := by decide +kernel
set_option maxRecDepth 20000 in
theorem ggX4_run_X7_postsWithin : GoodIn wsX4_run wsX7_postsWithin := goodIn_r _ [9, 10, 11, 12, 8, 13, 14, 47, 48, 49, 50, 51, 52, 53] (by decide +kernel) (by decide +kernel)
set_option maxRecDepth 20000 in
theorem gX4_run_X7_postsWithin : GoodIn wsX4_run (wsV RX4 28 RX7 yX7_postsWithin wsX7_postsWithin) := goodIn_app (goodIn_of _ (by decide +kernel)) ggX4_run_X7_postsWithin
set_option maxRecDepth 20000 in
theorem ggX4_run_X4_climb : GoodIn wsX4_run wsX4_climb := goodIn_r _ [19, 1, 20, 21, 2, 22, 23, 24, 25, 26, 27, 28, 18, 29, 30, 31, 32, 33, 34, 35, 36, 37, 38, 39, 40, 41, 42, 43, 44, 45, 46] (by decide +kernel) (by decide +kernel)
set_option maxRecDepth 20000 in
theorem gX4_run_X4_climb : GoodIn wsX4_run (wsV RX4 34 RX4 yX4_climb wsX4_climb) := goodIn_app (goodIn_of _ (by decide +kernel)) ggX4_run_X4_climb
theorem dX4_run_0 : decode cX4_run 0 = .ok (.aload_n 0, 1) := by decide +kernel
theorem dX4_run_1 : decode cX4_run 1 = .ok (.iload_n 2, 1) := by decide +kernel
theorem dX4_run_2 : decode cX4_run 2 = .ok (.putfield 25, 3) := by decide +kernel
theorem dX4_run_5 : decode cX4_run 5 = .ok (.iconst 0, 1) := by decide +kernel
theorem dX4_run_6 : decode cX4_run 6 = .ok (.istore 4, 2) := by decide +kernel
theorem dX4_run_8 : decode cX4_run 8 = .ok (.iload 4, 2) := by decide +kernel
theorem dX4_run_10 : decode cX4_run 10 = .ok (.aload_n 0, 1) := by decide +kernel
theorem dX4_run_11 : decode cX4_run 11 = .ok (.getfield 25, 3) := by decide +kernel
theorem dX4_run_14 : decode cX4_run 14 = .ok (.if_icmp .ge 23, 3) := by decide +kernel
theorem dX4_run_17 : decode cX4_run 17 = .ok (.aload_n 0, 1) := by decide +kernel
theorem dX4_run_18 : decode cX4_run 18 = .ok (.getfield 9, 3) := by decide +kernel
theorem dX4_run_21 : decode cX4_run 21 = .ok (.iload 4, 2) := by decide +kernel
theorem dX4_run_23 : decode cX4_run 23 = .ok (.aload_n 1, 1) := by decide +kernel
theorem dX4_run_24 : decode cX4_run 24 = .ok (.iload 4, 2) := by decide +kernel
theorem dX4_run_26 : decode cX4_run 26 = .ok (.iload_n 3, 1) := by decide +kernel
theorem dX4_run_27 : decode cX4_run 27 = .ok (.invokevirtual 28, 3) := by decide +kernel
theorem dX4_run_30 : decode cX4_run 30 = .ok (.iastore, 1) := by decide +kernel
theorem dX4_run_31 : decode cX4_run 31 = .ok (.iinc 4 1, 3) := by decide +kernel
theorem dX4_run_34 : decode cX4_run 34 = .ok (.goto (-26), 3) := by decide +kernel
theorem dX4_run_37 : decode cX4_run 37 = .ok (.aload_n 0, 1) := by decide +kernel
theorem dX4_run_38 : decode cX4_run 38 = .ok (.aload_n 0, 1) := by decide +kernel
theorem dX4_run_39 : decode cX4_run 39 = .ok (.invokevirtual 34, 3) := by decide +kernel
theorem dX4_run_42 : decode cX4_run 42 = .ok (.putfield 38, 3) := by decide +kernel
theorem dX4_run_45 : decode cX4_run 45 = .ok (.aload_n 0, 1) := by decide +kernel
theorem dX4_run_46 : decode cX4_run 46 = .ok (.iload_n 3, 1) := by decide +kernel
theorem dX4_run_47 : decode cX4_run 47 = .ok (.putfield 21, 3) := by decide +kernel
theorem dX4_run_50 : decode cX4_run 50 = .ok (.return_, 1) := by decide +kernel
set_option maxRecDepth 20000 in
theorem ggX4_climb_X8_allOf : GoodIn wsX4_climb wsX8_allOf := goodIn_r _ [8] (by decide +kernel) (by decide +kernel)
set_option maxRecDepth 20000 in
theorem gX4_climb_X8_allOf_n41 : GoodIn wsX4_climb (wsX8_allOf) := ggX4_climb_X8_allOf
set_option maxRecDepth 20000 in
theorem ggX4_climb_X4_candidates : GoodIn wsX4_climb wsX4_candidates := goodIn_r _ [13, 1, 4, 14, 7, 15, 16, 17, 18, 19, 20, 21, 22, 23, 24, 25, 26, 27, 28, 29, 30] (by decide +kernel) (by decide +kernel)
set_option maxRecDepth 20000 in
theorem gX4_climb_X4_candidates : GoodIn wsX4_climb (wsV RX4 45 RX4 yX4_candidates wsX4_candidates) := goodIn_app (goodIn_of _ (by decide +kernel)) ggX4_climb_X4_candidates
set_option maxRecDepth 20000 in
theorem ggX4_climb_X8_lowestBit : GoodIn wsX4_climb wsX8_lowestBit := goodIn_r _ [15, 16, 17, 18, 19, 20, 21, 22] (by decide +kernel) (by decide +kernel)
set_option maxRecDepth 20000 in
theorem gX4_climb_X8_lowestBit_n49 : GoodIn wsX4_climb (wsX8_lowestBit) := ggX4_climb_X8_lowestBit
theorem dX4_climb_0 : decode cX4_climb 0 = .ok (.aload_n 0, 1) := by decide +kernel
theorem dX4_climb_1 : decode cX4_climb 1 = .ok (.getfield 25, 3) := by decide +kernel
theorem dX4_climb_4 : decode cX4_climb 4 = .ok (.invokestatic 41, 3) := by decide +kernel
theorem dX4_climb_7 : decode cX4_climb 7 = .ok (.istore_n 1, 1) := by decide +kernel
theorem dX4_climb_8 : decode cX4_climb 8 = .ok (.iconst 0, 1) := by decide +kernel
theorem dX4_climb_9 : decode cX4_climb 9 = .ok (.istore_n 2, 1) := by decide +kernel
theorem dX4_climb_10 : decode cX4_climb 10 = .ok (.iconst 0, 1) := by decide +kernel
theorem dX4_climb_11 : decode cX4_climb 11 = .ok (.istore_n 3, 1) := by decide +kernel
theorem dX4_climb_12 : decode cX4_climb 12 = .ok (.iconst 0, 1) := by decide +kernel
theorem dX4_climb_13 : decode cX4_climb 13 = .ok (.istore 4, 2) := by decide +kernel
theorem dX4_climb_15 : decode cX4_climb 15 = .ok (.aload_n 0, 1) := by decide +kernel
theorem dX4_climb_16 : decode cX4_climb 16 = .ok (.getfield 18, 3) := by decide +kernel
theorem dX4_climb_19 : decode cX4_climb 19 = .ok (.iconst 0, 1) := by decide +kernel
theorem dX4_climb_20 : decode cX4_climb 20 = .ok (.aload_n 0, 1) := by decide +kernel
theorem dX4_climb_21 : decode cX4_climb 21 = .ok (.iload_n 2, 1) := by decide +kernel
theorem dX4_climb_22 : decode cX4_climb 22 = .ok (.invokevirtual 45, 3) := by decide +kernel
theorem dX4_climb_25 : decode cX4_climb 25 = .ok (.iastore, 1) := by decide +kernel
theorem dX4_climb_26 : decode cX4_climb 26 = .ok (.iconst 0, 1) := by decide +kernel
theorem dX4_climb_27 : decode cX4_climb 27 = .ok (.istore 5, 2) := by decide +kernel
theorem dX4_climb_29 : decode cX4_climb 29 = .ok (.iload 5, 2) := by decide +kernel
theorem dX4_climb_31 : decode cX4_climb 31 = .ok (.ldc 48, 2) := by decide +kernel
theorem dX4_climb_33 : decode cX4_climb 33 = .ok (.if_icmp .gt 134, 3) := by decide +kernel
theorem dX4_climb_36 : decode cX4_climb 36 = .ok (.aload_n 0, 1) := by decide +kernel
theorem dX4_climb_37 : decode cX4_climb 37 = .ok (.getfield 18, 3) := by decide +kernel
theorem dX4_climb_40 : decode cX4_climb 40 = .ok (.iload_n 3, 1) := by decide +kernel
theorem dX4_climb_41 : decode cX4_climb 41 = .ok (.iaload, 1) := by decide +kernel
theorem dX4_climb_42 : decode cX4_climb 42 = .ok (.ifCond .ne 32, 3) := by decide +kernel
theorem dX4_climb_45 : decode cX4_climb 45 = .ok (.iload_n 3, 1) := by decide +kernel
theorem dX4_climb_46 : decode cX4_climb 46 = .ok (.ifCond .ne 6, 3) := by decide +kernel
theorem dX4_climb_49 : decode cX4_climb 49 = .ok (.bipush (-8), 2) := by decide +kernel
theorem dX4_climb_51 : decode cX4_climb 51 = .ok (.ireturn, 1) := by decide +kernel
theorem dX4_climb_52 : decode cX4_climb 52 = .ok (.iinc 3 (-1), 3) := by decide +kernel
theorem dX4_climb_55 : decode cX4_climb 55 = .ok (.iload_n 2, 1) := by decide +kernel
theorem dX4_climb_56 : decode cX4_climb 56 = .ok (.aload_n 0, 1) := by decide +kernel
theorem dX4_climb_57 : decode cX4_climb 57 = .ok (.getfield 9, 3) := by decide +kernel
theorem dX4_climb_60 : decode cX4_climb 60 = .ok (.aload_n 0, 1) := by decide +kernel
theorem dX4_climb_61 : decode cX4_climb 61 = .ok (.getfield 15, 3) := by decide +kernel
theorem dX4_climb_64 : decode cX4_climb 64 = .ok (.iload_n 3, 1) := by decide +kernel
theorem dX4_climb_65 : decode cX4_climb 65 = .ok (.iaload, 1) := by decide +kernel
theorem dX4_climb_66 : decode cX4_climb 66 = .ok (.iaload, 1) := by decide +kernel
theorem dX4_climb_67 : decode cX4_climb 67 = .ok (.iconst (-1), 1) := by decide +kernel
theorem dX4_climb_68 : decode cX4_climb 68 = .ok (.ixor, 1) := by decide +kernel
theorem dX4_climb_69 : decode cX4_climb 69 = .ok (.iand, 1) := by decide +kernel
theorem dX4_climb_70 : decode cX4_climb 70 = .ok (.istore_n 2, 1) := by decide +kernel
theorem dX4_climb_71 : decode cX4_climb 71 = .ok (.goto 90, 3) := by decide +kernel
theorem dX4_climb_74 : decode cX4_climb 74 = .ok (.iload 4, 2) := by decide +kernel
theorem dX4_climb_76 : decode cX4_climb 76 = .ok (.sipush 20000, 3) := by decide +kernel
theorem dX4_climb_79 : decode cX4_climb 79 = .ok (.if_icmp .ne 6, 3) := by decide +kernel
theorem dX4_climb_82 : decode cX4_climb 82 = .ok (.bipush (-7), 2) := by decide +kernel
theorem dX4_climb_84 : decode cX4_climb 84 = .ok (.ireturn, 1) := by decide +kernel
theorem dX4_climb_85 : decode cX4_climb 85 = .ok (.iinc 4 1, 3) := by decide +kernel
theorem dX4_climb_88 : decode cX4_climb 88 = .ok (.aload_n 0, 1) := by decide +kernel
theorem dX4_climb_89 : decode cX4_climb 89 = .ok (.getfield 18, 3) := by decide +kernel
theorem dX4_climb_92 : decode cX4_climb 92 = .ok (.iload_n 3, 1) := by decide +kernel
theorem dX4_climb_93 : decode cX4_climb 93 = .ok (.iaload, 1) := by decide +kernel
theorem dX4_climb_94 : decode cX4_climb 94 = .ok (.invokestatic 49, 3) := by decide +kernel
theorem dX4_climb_97 : decode cX4_climb 97 = .ok (.istore 6, 2) := by decide +kernel
theorem dX4_climb_99 : decode cX4_climb 99 = .ok (.aload_n 0, 1) := by decide +kernel
theorem dX4_climb_100 : decode cX4_climb 100 = .ok (.getfield 18, 3) := by decide +kernel
theorem dX4_climb_103 : decode cX4_climb 103 = .ok (.iload_n 3, 1) := by decide +kernel
theorem dX4_climb_104 : decode cX4_climb 104 = .ok (.dup2, 1) := by decide +kernel
theorem dX4_climb_105 : decode cX4_climb 105 = .ok (.iaload, 1) := by decide +kernel
theorem dX4_climb_106 : decode cX4_climb 106 = .ok (.aload_n 0, 1) := by decide +kernel
theorem dX4_climb_107 : decode cX4_climb 107 = .ok (.getfield 18, 3) := by decide +kernel
theorem dX4_climb_110 : decode cX4_climb 110 = .ok (.iload_n 3, 1) := by decide +kernel
theorem dX4_climb_111 : decode cX4_climb 111 = .ok (.iaload, 1) := by decide +kernel
theorem dX4_climb_112 : decode cX4_climb 112 = .ok (.iconst 1, 1) := by decide +kernel
theorem dX4_climb_113 : decode cX4_climb 113 = .ok (.isub, 1) := by decide +kernel
theorem dX4_climb_114 : decode cX4_climb 114 = .ok (.iand, 1) := by decide +kernel
theorem dX4_climb_115 : decode cX4_climb 115 = .ok (.iastore, 1) := by decide +kernel
theorem dX4_climb_116 : decode cX4_climb 116 = .ok (.aload_n 0, 1) := by decide +kernel
theorem dX4_climb_117 : decode cX4_climb 117 = .ok (.getfield 15, 3) := by decide +kernel
theorem dX4_climb_120 : decode cX4_climb 120 = .ok (.iload_n 3, 1) := by decide +kernel
theorem dX4_climb_121 : decode cX4_climb 121 = .ok (.iload 6, 2) := by decide +kernel
theorem dX4_climb_123 : decode cX4_climb 123 = .ok (.iastore, 1) := by decide +kernel
theorem dX4_climb_124 : decode cX4_climb 124 = .ok (.iload_n 2, 1) := by decide +kernel
theorem dX4_climb_125 : decode cX4_climb 125 = .ok (.aload_n 0, 1) := by decide +kernel
theorem dX4_climb_126 : decode cX4_climb 126 = .ok (.getfield 9, 3) := by decide +kernel
theorem dX4_climb_129 : decode cX4_climb 129 = .ok (.iload 6, 2) := by decide +kernel
theorem dX4_climb_131 : decode cX4_climb 131 = .ok (.iaload, 1) := by decide +kernel
theorem dX4_climb_132 : decode cX4_climb 132 = .ok (.ior, 1) := by decide +kernel
theorem dX4_climb_133 : decode cX4_climb 133 = .ok (.istore_n 2, 1) := by decide +kernel
theorem dX4_climb_134 : decode cX4_climb 134 = .ok (.iinc 3 1, 3) := by decide +kernel
theorem dX4_climb_137 : decode cX4_climb 137 = .ok (.iload_n 2, 1) := by decide +kernel
theorem dX4_climb_138 : decode cX4_climb 138 = .ok (.iload_n 1, 1) := by decide +kernel
theorem dX4_climb_139 : decode cX4_climb 139 = .ok (.if_icmp .eq 9, 3) := by decide +kernel
theorem dX4_climb_142 : decode cX4_climb 142 = .ok (.iload_n 3, 1) := by decide +kernel
theorem dX4_climb_143 : decode cX4_climb 143 = .ok (.bipush 32, 2) := by decide +kernel
theorem dX4_climb_145 : decode cX4_climb 145 = .ok (.if_icmp .ne 5, 3) := by decide +kernel
theorem dX4_climb_148 : decode cX4_climb 148 = .ok (.iload_n 3, 1) := by decide +kernel
theorem dX4_climb_149 : decode cX4_climb 149 = .ok (.ireturn, 1) := by decide +kernel
theorem dX4_climb_150 : decode cX4_climb 150 = .ok (.aload_n 0, 1) := by decide +kernel
theorem dX4_climb_151 : decode cX4_climb 151 = .ok (.getfield 18, 3) := by decide +kernel
theorem dX4_climb_154 : decode cX4_climb 154 = .ok (.iload_n 3, 1) := by decide +kernel
theorem dX4_climb_155 : decode cX4_climb 155 = .ok (.aload_n 0, 1) := by decide +kernel
theorem dX4_climb_156 : decode cX4_climb 156 = .ok (.iload_n 2, 1) := by decide +kernel
theorem dX4_climb_157 : decode cX4_climb 157 = .ok (.invokevirtual 45, 3) := by decide +kernel
theorem dX4_climb_160 : decode cX4_climb 160 = .ok (.iastore, 1) := by decide +kernel
theorem dX4_climb_161 : decode cX4_climb 161 = .ok (.iinc 5 1, 3) := by decide +kernel
theorem dX4_climb_164 : decode cX4_climb 164 = .ok (.goto (-135), 3) := by decide +kernel
theorem dX4_climb_167 : decode cX4_climb 167 = .ok (.bipush (-7), 2) := by decide +kernel
theorem dX4_climb_169 : decode cX4_climb 169 = .ok (.ireturn, 1) := by decide +kernel
set_option maxRecDepth 20000 in
theorem ggX4_candidates_X8_lowestBit : GoodIn wsX4_candidates wsX8_lowestBit := goodIn_r _ [5, 6, 7, 8, 9, 10, 11, 12] (by decide +kernel) (by decide +kernel)
set_option maxRecDepth 20000 in
theorem gX4_candidates_X8_lowestBit_n49 : GoodIn wsX4_candidates (wsX8_lowestBit) := ggX4_candidates_X8_lowestBit
set_option maxRecDepth 20000 in
theorem ggX4_candidates_X8_isIn : GoodIn wsX4_candidates wsX8_isIn := goodIn_r _ [14] (by decide +kernel) (by decide +kernel)
set_option maxRecDepth 20000 in
theorem gX4_candidates_X8_isIn_n52 : GoodIn wsX4_candidates (wsX8_isIn) := ggX4_candidates_X8_isIn
theorem dX4_candidates_0 : decode cX4_candidates 0 = .ok (.iload_n 1, 1) := by decide +kernel
theorem dX4_candidates_1 : decode cX4_candidates 1 = .ok (.iconst (-1), 1) := by decide +kernel
theorem dX4_candidates_2 : decode cX4_candidates 2 = .ok (.ixor, 1) := by decide +kernel
theorem dX4_candidates_3 : decode cX4_candidates 3 = .ok (.invokestatic 49, 3) := by decide +kernel
theorem dX4_candidates_6 : decode cX4_candidates 6 = .ok (.istore_n 2, 1) := by decide +kernel
theorem dX4_candidates_7 : decode cX4_candidates 7 = .ok (.iload_n 2, 1) := by decide +kernel
theorem dX4_candidates_8 : decode cX4_candidates 8 = .ok (.aload_n 0, 1) := by decide +kernel
theorem dX4_candidates_9 : decode cX4_candidates 9 = .ok (.getfield 25, 3) := by decide +kernel
theorem dX4_candidates_12 : decode cX4_candidates 12 = .ok (.if_icmp .lt 5, 3) := by decide +kernel
theorem dX4_candidates_15 : decode cX4_candidates 15 = .ok (.iconst 0, 1) := by decide +kernel
theorem dX4_candidates_16 : decode cX4_candidates 16 = .ok (.ireturn, 1) := by decide +kernel
theorem dX4_candidates_17 : decode cX4_candidates 17 = .ok (.iconst 0, 1) := by decide +kernel
theorem dX4_candidates_18 : decode cX4_candidates 18 = .ok (.istore_n 3, 1) := by decide +kernel
theorem dX4_candidates_19 : decode cX4_candidates 19 = .ok (.iconst 0, 1) := by decide +kernel
theorem dX4_candidates_20 : decode cX4_candidates 20 = .ok (.istore 4, 2) := by decide +kernel
theorem dX4_candidates_22 : decode cX4_candidates 22 = .ok (.iload 4, 2) := by decide +kernel
theorem dX4_candidates_24 : decode cX4_candidates 24 = .ok (.aload_n 0, 1) := by decide +kernel
theorem dX4_candidates_25 : decode cX4_candidates 25 = .ok (.getfield 25, 3) := by decide +kernel
theorem dX4_candidates_28 : decode cX4_candidates 28 = .ok (.if_icmp .ge 42, 3) := by decide +kernel
theorem dX4_candidates_31 : decode cX4_candidates 31 = .ok (.aload_n 0, 1) := by decide +kernel
theorem dX4_candidates_32 : decode cX4_candidates 32 = .ok (.getfield 9, 3) := by decide +kernel
theorem dX4_candidates_35 : decode cX4_candidates 35 = .ok (.iload_n 2, 1) := by decide +kernel
theorem dX4_candidates_36 : decode cX4_candidates 36 = .ok (.iaload, 1) := by decide +kernel
theorem dX4_candidates_37 : decode cX4_candidates 37 = .ok (.iload 4, 2) := by decide +kernel
theorem dX4_candidates_39 : decode cX4_candidates 39 = .ok (.invokestatic 52, 3) := by decide +kernel
theorem dX4_candidates_42 : decode cX4_candidates 42 = .ok (.ifCond .eq 22, 3) := by decide +kernel
theorem dX4_candidates_45 : decode cX4_candidates 45 = .ok (.aload_n 0, 1) := by decide +kernel
theorem dX4_candidates_46 : decode cX4_candidates 46 = .ok (.getfield 9, 3) := by decide +kernel
theorem dX4_candidates_49 : decode cX4_candidates 49 = .ok (.iload 4, 2) := by decide +kernel
theorem dX4_candidates_51 : decode cX4_candidates 51 = .ok (.iaload, 1) := by decide +kernel
theorem dX4_candidates_52 : decode cX4_candidates 52 = .ok (.iload_n 1, 1) := by decide +kernel
theorem dX4_candidates_53 : decode cX4_candidates 53 = .ok (.iand, 1) := by decide +kernel
theorem dX4_candidates_54 : decode cX4_candidates 54 = .ok (.ifCond .ne 10, 3) := by decide +kernel
theorem dX4_candidates_57 : decode cX4_candidates 57 = .ok (.iload_n 3, 1) := by decide +kernel
theorem dX4_candidates_58 : decode cX4_candidates 58 = .ok (.iconst 1, 1) := by decide +kernel
theorem dX4_candidates_59 : decode cX4_candidates 59 = .ok (.iload 4, 2) := by decide +kernel
theorem dX4_candidates_61 : decode cX4_candidates 61 = .ok (.ishl, 1) := by decide +kernel
theorem dX4_candidates_62 : decode cX4_candidates 62 = .ok (.ior, 1) := by decide +kernel
theorem dX4_candidates_63 : decode cX4_candidates 63 = .ok (.istore_n 3, 1) := by decide +kernel
theorem dX4_candidates_64 : decode cX4_candidates 64 = .ok (.iinc 4 1, 3) := by decide +kernel
theorem dX4_candidates_67 : decode cX4_candidates 67 = .ok (.goto (-45), 3) := by decide +kernel
theorem dX4_candidates_70 : decode cX4_candidates 70 = .ok (.iload_n 3, 1) := by decide +kernel
theorem dX4_candidates_71 : decode cX4_candidates 71 = .ok (.ireturn, 1) := by decide +kernel
theorem dX5_init_0 : decode cX5_init 0 = .ok (.aload_n 0, 1) := by decide +kernel
theorem dX5_init_1 : decode cX5_init 1 = .ok (.invokespecial 3, 3) := by decide +kernel
theorem dX5_init_4 : decode cX5_init 4 = .ok (.aload_n 0, 1) := by decide +kernel
theorem dX5_init_5 : decode cX5_init 5 = .ok (.bipush 60, 2) := by decide +kernel
theorem dX5_init_7 : decode cX5_init 7 = .ok (.newarray .int, 2) := by decide +kernel
theorem dX5_init_9 : decode cX5_init 9 = .ok (.putfield 9, 3) := by decide +kernel
theorem dX5_init_12 : decode cX5_init 12 = .ok (.return_, 1) := by decide +kernel
set_option maxRecDepth 20000 in
theorem ggX5_lay_J7_fill_53178 : GoodIn wsX5_lay wsJ7_fill_53178 := goodIn_r _ [8] (by decide +kernel) (by decide +kernel)
set_option maxRecDepth 20000 in
theorem gX5_lay_J7_fill_53178 : GoodIn wsX5_lay (va_wsS RX5 26 yJ7_fill_53178 wsJ7_fill_53178) := goodIn_app (goodIn_of _ (by decide +kernel)) ggX5_lay_J7_fill_53178
theorem dX5_lay_0 : decode cX5_lay 0 = .ok (.aload_n 0, 1) := by decide +kernel
theorem dX5_lay_1 : decode cX5_lay 1 = .ok (.iconst 1, 1) := by decide +kernel
theorem dX5_lay_2 : decode cX5_lay 2 = .ok (.putfield 15, 3) := by decide +kernel
theorem dX5_lay_5 : decode cX5_lay 5 = .ok (.aload_n 0, 1) := by decide +kernel
theorem dX5_lay_6 : decode cX5_lay 6 = .ok (.iload_n 1, 1) := by decide +kernel
theorem dX5_lay_7 : decode cX5_lay 7 = .ok (.putfield 19, 3) := by decide +kernel
theorem dX5_lay_10 : decode cX5_lay 10 = .ok (.aload_n 0, 1) := by decide +kernel
theorem dX5_lay_11 : decode cX5_lay 11 = .ok (.iload_n 2, 1) := by decide +kernel
theorem dX5_lay_12 : decode cX5_lay 12 = .ok (.putfield 23, 3) := by decide +kernel
theorem dX5_lay_15 : decode cX5_lay 15 = .ok (.aload_n 0, 1) := by decide +kernel
theorem dX5_lay_16 : decode cX5_lay 16 = .ok (.getfield 9, 3) := by decide +kernel
theorem dX5_lay_19 : decode cX5_lay 19 = .ok (.iconst 0, 1) := by decide +kernel
theorem dX5_lay_20 : decode cX5_lay 20 = .ok (.invokestatic 26, 3) := by decide +kernel
theorem dX5_lay_23 : decode cX5_lay 23 = .ok (.return_, 1) := by decide +kernel
theorem dX5_has_0 : decode cX5_has 0 = .ok (.iload_n 1, 1) := by decide +kernel
theorem dX5_has_1 : decode cX5_has 1 = .ok (.ifCond .lt 15, 3) := by decide +kernel
theorem dX5_has_4 : decode cX5_has 4 = .ok (.iload_n 1, 1) := by decide +kernel
theorem dX5_has_5 : decode cX5_has 5 = .ok (.aload_n 0, 1) := by decide +kernel
theorem dX5_has_6 : decode cX5_has 6 = .ok (.getfield 23, 3) := by decide +kernel
theorem dX5_has_9 : decode cX5_has 9 = .ok (.if_icmp .ge 7, 3) := by decide +kernel
theorem dX5_has_12 : decode cX5_has 12 = .ok (.iconst 1, 1) := by decide +kernel
theorem dX5_has_13 : decode cX5_has 13 = .ok (.goto 4, 3) := by decide +kernel
theorem dX5_has_16 : decode cX5_has 16 = .ok (.iconst 0, 1) := by decide +kernel
theorem dX5_has_17 : decode cX5_has 17 = .ok (.ireturn, 1) := by decide +kernel
set_option maxRecDepth 20000 in
theorem ggX5_read_X5_has : GoodIn wsX5_read wsX5_has := goodIn_r _ [6, 7, 8, 9, 10, 11] (by decide +kernel) (by decide +kernel)
set_option maxRecDepth 20000 in
theorem gX5_read_X5_has : GoodIn wsX5_read (wsV RX5 32 RX5 yX5_has wsX5_has) := goodIn_app (goodIn_of _ (by decide +kernel)) ggX5_read_X5_has
theorem dX5_read_0 : decode cX5_read 0 = .ok (.aload_n 0, 1) := by decide +kernel
theorem dX5_read_1 : decode cX5_read 1 = .ok (.iload_n 1, 1) := by decide +kernel
theorem dX5_read_2 : decode cX5_read 2 = .ok (.invokevirtual 32, 3) := by decide +kernel
theorem dX5_read_5 : decode cX5_read 5 = .ok (.ifCond .eq 12, 3) := by decide +kernel
theorem dX5_read_8 : decode cX5_read 8 = .ok (.aload_n 0, 1) := by decide +kernel
theorem dX5_read_9 : decode cX5_read 9 = .ok (.getfield 9, 3) := by decide +kernel
theorem dX5_read_12 : decode cX5_read 12 = .ok (.iload_n 1, 1) := by decide +kernel
theorem dX5_read_13 : decode cX5_read 13 = .ok (.iaload, 1) := by decide +kernel
theorem dX5_read_14 : decode cX5_read 14 = .ok (.goto 4, 3) := by decide +kernel
theorem dX5_read_17 : decode cX5_read 17 = .ok (.iconst (-1), 1) := by decide +kernel
theorem dX5_read_18 : decode cX5_read 18 = .ok (.ireturn, 1) := by decide +kernel
theorem dX5_write_0 : decode cX5_write 0 = .ok (.aload_n 0, 1) := by decide +kernel
theorem dX5_write_1 : decode cX5_write 1 = .ok (.getfield 19, 3) := by decide +kernel
theorem dX5_write_4 : decode cX5_write 4 = .ok (.ifCond .ne 14, 3) := by decide +kernel
theorem dX5_write_7 : decode cX5_write 7 = .ok (.aload_n 0, 1) := by decide +kernel
theorem dX5_write_8 : decode cX5_write 8 = .ok (.getfield 9, 3) := by decide +kernel
theorem dX5_write_11 : decode cX5_write 11 = .ok (.iload_n 1, 1) := by decide +kernel
theorem dX5_write_12 : decode cX5_write 12 = .ok (.iload_n 2, 1) := by decide +kernel
theorem dX5_write_13 : decode cX5_write 13 = .ok (.i2b, 1) := by decide +kernel
theorem dX5_write_14 : decode cX5_write 14 = .ok (.iastore, 1) := by decide +kernel
theorem dX5_write_15 : decode cX5_write 15 = .ok (.goto 29, 3) := by decide +kernel
theorem dX5_write_18 : decode cX5_write 18 = .ok (.aload_n 0, 1) := by decide +kernel
theorem dX5_write_19 : decode cX5_write 19 = .ok (.getfield 19, 3) := by decide +kernel
theorem dX5_write_22 : decode cX5_write 22 = .ok (.iconst 1, 1) := by decide +kernel
theorem dX5_write_23 : decode cX5_write 23 = .ok (.if_icmp .ne 14, 3) := by decide +kernel
theorem dX5_write_26 : decode cX5_write 26 = .ok (.aload_n 0, 1) := by decide +kernel
theorem dX5_write_27 : decode cX5_write 27 = .ok (.getfield 9, 3) := by decide +kernel
theorem dX5_write_30 : decode cX5_write 30 = .ok (.iload_n 1, 1) := by decide +kernel
theorem dX5_write_31 : decode cX5_write 31 = .ok (.iload_n 2, 1) := by decide +kernel
theorem dX5_write_32 : decode cX5_write 32 = .ok (.i2s, 1) := by decide +kernel
theorem dX5_write_33 : decode cX5_write 33 = .ok (.iastore, 1) := by decide +kernel
theorem dX5_write_34 : decode cX5_write 34 = .ok (.goto 10, 3) := by decide +kernel
theorem dX5_write_37 : decode cX5_write 37 = .ok (.aload_n 0, 1) := by decide +kernel
theorem dX5_write_38 : decode cX5_write 38 = .ok (.getfield 9, 3) := by decide +kernel
theorem dX5_write_41 : decode cX5_write 41 = .ok (.iload_n 1, 1) := by decide +kernel
theorem dX5_write_42 : decode cX5_write 42 = .ok (.iload_n 2, 1) := by decide +kernel
theorem dX5_write_43 : decode cX5_write 43 = .ok (.iastore, 1) := by decide +kernel
theorem dX5_write_44 : decode cX5_write 44 = .ok (.return_, 1) := by decide +kernel
set_option maxRecDepth 20000 in
theorem ggX6_init_X6_lay : GoodIn wsX6_init wsX6_lay := goodIn_r _ [18, 19, 5, 6, 20, 21, 22, 23, 24, 25, 26, 27, 28, 29, 30, 31, 32, 33, 34, 35, 36, 37] (by decide +kernel) (by decide +kernel)
set_option maxRecDepth 20000 in
theorem gX6_init_X6_lay : GoodIn wsX6_init (wsV RX6 37 RX6 yX6_lay wsX6_lay) := goodIn_app (goodIn_of _ (by decide +kernel)) ggX6_init_X6_lay
theorem dX6_init_0 : decode cX6_init 0 = .ok (.aload_n 0, 1) := by decide +kernel
theorem dX6_init_1 : decode cX6_init 1 = .ok (.invokespecial 3, 3) := by decide +kernel
theorem dX6_init_4 : decode cX6_init 4 = .ok (.aload_n 0, 1) := by decide +kernel
theorem dX6_init_5 : decode cX6_init 5 = .ok (.bipush 6, 2) := by decide +kernel
theorem dX6_init_7 : decode cX6_init 7 = .ok (.newarray .int, 2) := by decide +kernel
theorem dX6_init_9 : decode cX6_init 9 = .ok (.putfield 9, 3) := by decide +kernel
theorem dX6_init_12 : decode cX6_init 12 = .ok (.aload_n 0, 1) := by decide +kernel
theorem dX6_init_13 : decode cX6_init 13 = .ok (.bipush 6, 2) := by decide +kernel
theorem dX6_init_15 : decode cX6_init 15 = .ok (.newarray .int, 2) := by decide +kernel
theorem dX6_init_17 : decode cX6_init 17 = .ok (.putfield 15, 3) := by decide +kernel
theorem dX6_init_20 : decode cX6_init 20 = .ok (.aload_n 0, 1) := by decide +kernel
theorem dX6_init_21 : decode cX6_init 21 = .ok (.bipush 6, 2) := by decide +kernel
theorem dX6_init_23 : decode cX6_init 23 = .ok (.newarray .long, 2) := by decide +kernel
theorem dX6_init_25 : decode cX6_init 25 = .ok (.putfield 18, 3) := by decide +kernel
theorem dX6_init_28 : decode cX6_init 28 = .ok (.aload_n 0, 1) := by decide +kernel
theorem dX6_init_29 : decode cX6_init 29 = .ok (.sipush 216, 3) := by decide +kernel
theorem dX6_init_32 : decode cX6_init 32 = .ok (.newarray .long, 2) := by decide +kernel
theorem dX6_init_34 : decode cX6_init 34 = .ok (.putfield 22, 3) := by decide +kernel
theorem dX6_init_37 : decode cX6_init 37 = .ok (.aload_n 0, 1) := by decide +kernel
theorem dX6_init_38 : decode cX6_init 38 = .ok (.bipush 7, 2) := by decide +kernel
theorem dX6_init_40 : decode cX6_init 40 = .ok (.newarray .long, 2) := by decide +kernel
theorem dX6_init_42 : decode cX6_init 42 = .ok (.putfield 25, 3) := by decide +kernel
theorem dX6_init_45 : decode cX6_init 45 = .ok (.aload_n 0, 1) := by decide +kernel
theorem dX6_init_46 : decode cX6_init 46 = .ok (.bipush 6, 2) := by decide +kernel
theorem dX6_init_48 : decode cX6_init 48 = .ok (.newarray .long, 2) := by decide +kernel
theorem dX6_init_50 : decode cX6_init 50 = .ok (.putfield 28, 3) := by decide +kernel
theorem dX6_init_53 : decode cX6_init 53 = .ok (.aload_n 0, 1) := by decide +kernel
theorem dX6_init_54 : decode cX6_init 54 = .ok (.bipush 6, 2) := by decide +kernel
theorem dX6_init_56 : decode cX6_init 56 = .ok (.newarray .int, 2) := by decide +kernel
theorem dX6_init_58 : decode cX6_init 58 = .ok (.putfield 31, 3) := by decide +kernel
theorem dX6_init_61 : decode cX6_init 61 = .ok (.aload_n 0, 1) := by decide +kernel
theorem dX6_init_62 : decode cX6_init 62 = .ok (.bipush 6, 2) := by decide +kernel
theorem dX6_init_64 : decode cX6_init 64 = .ok (.newarray .int, 2) := by decide +kernel
theorem dX6_init_66 : decode cX6_init 66 = .ok (.putfield 34, 3) := by decide +kernel
theorem dX6_init_69 : decode cX6_init 69 = .ok (.aload_n 0, 1) := by decide +kernel
theorem dX6_init_70 : decode cX6_init 70 = .ok (.iconst 1, 1) := by decide +kernel
theorem dX6_init_71 : decode cX6_init 71 = .ok (.invokevirtual 37, 3) := by decide +kernel
theorem dX6_init_74 : decode cX6_init 74 = .ok (.return_, 1) := by decide +kernel
theorem dX6_place_0 : decode cX6_place 0 = .ok (.iload_n 0, 1) := by decide +kernel
theorem dX6_place_1 : decode cX6_place 1 = .ok (.bipush 6, 2) := by decide +kernel
theorem dX6_place_3 : decode cX6_place 3 = .ok (.imul, 1) := by decide +kernel
theorem dX6_place_4 : decode cX6_place 4 = .ok (.iload_n 1, 1) := by decide +kernel
theorem dX6_place_5 : decode cX6_place 5 = .ok (.iadd, 1) := by decide +kernel
theorem dX6_place_6 : decode cX6_place 6 = .ok (.bipush 6, 2) := by decide +kernel
theorem dX6_place_8 : decode cX6_place 8 = .ok (.imul, 1) := by decide +kernel
theorem dX6_place_9 : decode cX6_place 9 = .ok (.iload_n 2, 1) := by decide +kernel
theorem dX6_place_10 : decode cX6_place 10 = .ok (.iadd, 1) := by decide +kernel
theorem dX6_place_11 : decode cX6_place 11 = .ok (.ireturn, 1) := by decide +kernel
set_option maxRecDepth 20000 in
theorem ggX6_lay_J7_fill_53178 : GoodIn wsX6_lay wsJ7_fill_53178 := goodIn_r _ [8] (by decide +kernel) (by decide +kernel)
set_option maxRecDepth 20000 in
theorem gX6_lay_J7_fill_53178 : GoodIn wsX6_lay (va_wsS RX6 45 yJ7_fill_53178 wsJ7_fill_53178) := goodIn_app (goodIn_of _ (by decide +kernel)) ggX6_lay_J7_fill_53178
theorem dX6_lay_0 : decode cX6_lay 0 = .ok (.aload_n 0, 1) := by decide +kernel
theorem dX6_lay_1 : decode cX6_lay 1 = .ok (.iload_n 1, 1) := by decide +kernel
theorem dX6_lay_2 : decode cX6_lay 2 = .ok (.putfield 41, 3) := by decide +kernel
theorem dX6_lay_5 : decode cX6_lay 5 = .ok (.aload_n 0, 1) := by decide +kernel
theorem dX6_lay_6 : decode cX6_lay 6 = .ok (.getfield 9, 3) := by decide +kernel
theorem dX6_lay_9 : decode cX6_lay 9 = .ok (.iconst 0, 1) := by decide +kernel
theorem dX6_lay_10 : decode cX6_lay 10 = .ok (.invokestatic 45, 3) := by decide +kernel
theorem dX6_lay_13 : decode cX6_lay 13 = .ok (.aload_n 0, 1) := by decide +kernel
theorem dX6_lay_14 : decode cX6_lay 14 = .ok (.getfield 15, 3) := by decide +kernel
theorem dX6_lay_17 : decode cX6_lay 17 = .ok (.iconst 0, 1) := by decide +kernel
theorem dX6_lay_18 : decode cX6_lay 18 = .ok (.invokestatic 45, 3) := by decide +kernel
theorem dX6_lay_21 : decode cX6_lay 21 = .ok (.iconst 0, 1) := by decide +kernel
theorem dX6_lay_22 : decode cX6_lay 22 = .ok (.istore_n 2, 1) := by decide +kernel
theorem dX6_lay_23 : decode cX6_lay 23 = .ok (.iload_n 2, 1) := by decide +kernel
theorem dX6_lay_24 : decode cX6_lay 24 = .ok (.iload_n 1, 1) := by decide +kernel
theorem dX6_lay_25 : decode cX6_lay 25 = .ok (.if_icmp .ge 25, 3) := by decide +kernel
theorem dX6_lay_28 : decode cX6_lay 28 = .ok (.aload_n 0, 1) := by decide +kernel
theorem dX6_lay_29 : decode cX6_lay 29 = .ok (.getfield 9, 3) := by decide +kernel
theorem dX6_lay_32 : decode cX6_lay 32 = .ok (.iload_n 2, 1) := by decide +kernel
theorem dX6_lay_33 : decode cX6_lay 33 = .ok (.iconst 1, 1) := by decide +kernel
theorem dX6_lay_34 : decode cX6_lay 34 = .ok (.iastore, 1) := by decide +kernel
theorem dX6_lay_35 : decode cX6_lay 35 = .ok (.aload_n 0, 1) := by decide +kernel
theorem dX6_lay_36 : decode cX6_lay 36 = .ok (.getfield 15, 3) := by decide +kernel
theorem dX6_lay_39 : decode cX6_lay 39 = .ok (.iload_n 2, 1) := by decide +kernel
theorem dX6_lay_40 : decode cX6_lay 40 = .ok (.iconst 1, 1) := by decide +kernel
theorem dX6_lay_41 : decode cX6_lay 41 = .ok (.iadd, 1) := by decide +kernel
theorem dX6_lay_42 : decode cX6_lay 42 = .ok (.iconst 1, 1) := by decide +kernel
theorem dX6_lay_43 : decode cX6_lay 43 = .ok (.iastore, 1) := by decide +kernel
theorem dX6_lay_44 : decode cX6_lay 44 = .ok (.iinc 2 1, 3) := by decide +kernel
theorem dX6_lay_47 : decode cX6_lay 47 = .ok (.goto (-24), 3) := by decide +kernel
theorem dX6_lay_50 : decode cX6_lay 50 = .ok (.aload_n 0, 1) := by decide +kernel
theorem dX6_lay_51 : decode cX6_lay 51 = .ok (.iconst 0, 1) := by decide +kernel
theorem dX6_lay_52 : decode cX6_lay 52 = .ok (.putfield 51, 3) := by decide +kernel
theorem dX6_lay_55 : decode cX6_lay 55 = .ok (.return_, 1) := by decide +kernel
theorem dX6_putOnward_0 : decode cX6_putOnward 0 = .ok (.aload_n 0, 1) := by decide +kernel
theorem dX6_putOnward_1 : decode cX6_putOnward 1 = .ok (.getfield 9, 3) := by decide +kernel
theorem dX6_putOnward_4 : decode cX6_putOnward 4 = .ok (.iload_n 1, 1) := by decide +kernel
theorem dX6_putOnward_5 : decode cX6_putOnward 5 = .ok (.iload_n 2, 1) := by decide +kernel
theorem dX6_putOnward_6 : decode cX6_putOnward 6 = .ok (.iastore, 1) := by decide +kernel
theorem dX6_putOnward_7 : decode cX6_putOnward 7 = .ok (.aload_n 0, 1) := by decide +kernel
theorem dX6_putOnward_8 : decode cX6_putOnward 8 = .ok (.iconst 0, 1) := by decide +kernel
theorem dX6_putOnward_9 : decode cX6_putOnward 9 = .ok (.putfield 51, 3) := by decide +kernel
theorem dX6_putOnward_12 : decode cX6_putOnward 12 = .ok (.iconst 1, 1) := by decide +kernel
theorem dX6_putOnward_13 : decode cX6_putOnward 13 = .ok (.ireturn, 1) := by decide +kernel
theorem dX6_putBackward_0 : decode cX6_putBackward 0 = .ok (.aload_n 0, 1) := by decide +kernel
theorem dX6_putBackward_1 : decode cX6_putBackward 1 = .ok (.getfield 15, 3) := by decide +kernel
theorem dX6_putBackward_4 : decode cX6_putBackward 4 = .ok (.iload_n 1, 1) := by decide +kernel
theorem dX6_putBackward_5 : decode cX6_putBackward 5 = .ok (.iload_n 2, 1) := by decide +kernel
theorem dX6_putBackward_6 : decode cX6_putBackward 6 = .ok (.iastore, 1) := by decide +kernel
theorem dX6_putBackward_7 : decode cX6_putBackward 7 = .ok (.aload_n 0, 1) := by decide +kernel
theorem dX6_putBackward_8 : decode cX6_putBackward 8 = .ok (.iconst 0, 1) := by decide +kernel
theorem dX6_putBackward_9 : decode cX6_putBackward 9 = .ok (.putfield 51, 3) := by decide +kernel
theorem dX6_putBackward_12 : decode cX6_putBackward 12 = .ok (.iconst 1, 1) := by decide +kernel
theorem dX6_putBackward_13 : decode cX6_putBackward 13 = .ok (.ireturn, 1) := by decide +kernel
theorem dX6_hasRow_0 : decode cX6_hasRow 0 = .ok (.iload_n 1, 1) := by decide +kernel
theorem dX6_hasRow_1 : decode cX6_hasRow 1 = .ok (.ifCond .lt 15, 3) := by decide +kernel
theorem dX6_hasRow_4 : decode cX6_hasRow 4 = .ok (.iload_n 1, 1) := by decide +kernel
theorem dX6_hasRow_5 : decode cX6_hasRow 5 = .ok (.aload_n 0, 1) := by decide +kernel
theorem dX6_hasRow_6 : decode cX6_hasRow 6 = .ok (.getfield 41, 3) := by decide +kernel
theorem dX6_hasRow_9 : decode cX6_hasRow 9 = .ok (.if_icmp .gt 7, 3) := by decide +kernel
theorem dX6_hasRow_12 : decode cX6_hasRow 12 = .ok (.iconst 1, 1) := by decide +kernel
theorem dX6_hasRow_13 : decode cX6_hasRow 13 = .ok (.goto 4, 3) := by decide +kernel
theorem dX6_hasRow_16 : decode cX6_hasRow 16 = .ok (.iconst 0, 1) := by decide +kernel
theorem dX6_hasRow_17 : decode cX6_hasRow 17 = .ok (.ireturn, 1) := by decide +kernel
theorem dX6_level_0 : decode cX6_level 0 = .ok (.aload_n 0, 1) := by decide +kernel
theorem dX6_level_1 : decode cX6_level 1 = .ok (.getfield 9, 3) := by decide +kernel
theorem dX6_level_4 : decode cX6_level 4 = .ok (.iconst 0, 1) := by decide +kernel
theorem dX6_level_5 : decode cX6_level 5 = .ok (.iaload, 1) := by decide +kernel
theorem dX6_level_6 : decode cX6_level 6 = .ok (.aload_n 0, 1) := by decide +kernel
theorem dX6_level_7 : decode cX6_level 7 = .ok (.getfield 9, 3) := by decide +kernel
theorem dX6_level_10 : decode cX6_level 10 = .ok (.iload_n 1, 1) := by decide +kernel
theorem dX6_level_11 : decode cX6_level 11 = .ok (.iaload, 1) := by decide +kernel
theorem dX6_level_12 : decode cX6_level 12 = .ok (.isub, 1) := by decide +kernel
theorem dX6_level_13 : decode cX6_level 13 = .ok (.aload_n 0, 1) := by decide +kernel
theorem dX6_level_14 : decode cX6_level 14 = .ok (.getfield 15, 3) := by decide +kernel
theorem dX6_level_17 : decode cX6_level 17 = .ok (.iload_n 1, 1) := by decide +kernel
theorem dX6_level_18 : decode cX6_level 18 = .ok (.iaload, 1) := by decide +kernel
theorem dX6_level_19 : decode cX6_level 19 = .ok (.isub, 1) := by decide +kernel
theorem dX6_level_20 : decode cX6_level 20 = .ok (.ireturn, 1) := by decide +kernel
set_option maxRecDepth 20000 in
theorem ggX6_keepsLawsTo_X6_firstBroken : GoodIn wsX6_keepsLawsTo wsX6_firstBroken := goodIn_r _ [5, 6, 7, 8, 9, 10, 4, 11, 12, 13, 14, 15, 16, 17, 18, 19, 20, 21, 22, 23, 24, 25, 26, 27, 28, 29, 30, 31, 32, 33, 34, 35, 36, 37, 38, 39, 40, 41, 42, 43, 44, 45, 46, 47, 48, 49, 50, 51, 52, 53, 54, 55, 56, 57, 58, 59, 60, 61, 62, 63, 64, 65, 66, 67, 68, 69, 70, 71, 72, 73, 74, 75, 76, 77, 78, 79, 80, 81, 82, 83, 84, 85, 86, 87, 88, 89, 90, 91] (by decide +kernel) (by decide +kernel)
set_option maxRecDepth 20000 in
theorem gX6_keepsLawsTo_X6_firstBroken : GoodIn wsX6_keepsLawsTo (wsV RX6 55 RX6 yX6_firstBroken wsX6_firstBroken) := goodIn_app (goodIn_of _ (by decide +kernel)) ggX6_keepsLawsTo_X6_firstBroken
theorem dX6_keepsLawsTo_0 : decode cX6_keepsLawsTo 0 = .ok (.aload_n 0, 1) := by decide +kernel
theorem dX6_keepsLawsTo_1 : decode cX6_keepsLawsTo 1 = .ok (.invokevirtual 55, 3) := by decide +kernel
theorem dX6_keepsLawsTo_4 : decode cX6_keepsLawsTo 4 = .ok (.istore_n 2, 1) := by decide +kernel
theorem dX6_keepsLawsTo_5 : decode cX6_keepsLawsTo 5 = .ok (.iload_n 2, 1) := by decide +kernel
theorem dX6_keepsLawsTo_6 : decode cX6_keepsLawsTo 6 = .ok (.ifCond .eq 8, 3) := by decide +kernel
theorem dX6_keepsLawsTo_9 : decode cX6_keepsLawsTo 9 = .ok (.iload_n 2, 1) := by decide +kernel
theorem dX6_keepsLawsTo_10 : decode cX6_keepsLawsTo 10 = .ok (.iload_n 1, 1) := by decide +kernel
theorem dX6_keepsLawsTo_11 : decode cX6_keepsLawsTo 11 = .ok (.if_icmp .le 7, 3) := by decide +kernel
theorem dX6_keepsLawsTo_14 : decode cX6_keepsLawsTo 14 = .ok (.iconst 1, 1) := by decide +kernel
theorem dX6_keepsLawsTo_15 : decode cX6_keepsLawsTo 15 = .ok (.goto 4, 3) := by decide +kernel
theorem dX6_keepsLawsTo_18 : decode cX6_keepsLawsTo 18 = .ok (.iconst 0, 1) := by decide +kernel
theorem dX6_keepsLawsTo_19 : decode cX6_keepsLawsTo 19 = .ok (.ireturn, 1) := by decide +kernel
set_option maxRecDepth 20000 in
theorem ggX6_firstBroken_X6_judge : GoodIn wsX6_firstBroken wsX6_judge := goodIn_r _ [7, 8, 9, 10, 6, 11, 12, 13, 14, 15, 16, 17, 18, 19, 20, 21, 22, 23, 24, 25, 26, 27, 28, 29, 30, 31, 32, 33, 34, 35, 36, 37, 38, 39, 40, 41, 42, 43, 44, 45, 46, 47, 48, 49, 50, 51, 52, 53, 54, 55, 56, 57, 58, 59, 60, 61, 62, 63, 64, 65, 66, 67, 68, 69, 70, 71, 72, 73, 74, 75, 76, 77, 78, 79, 80, 81, 82, 83, 84, 85, 86, 87] (by decide +kernel) (by decide +kernel)
set_option maxRecDepth 20000 in
theorem gX6_firstBroken_X6_judge : GoodIn wsX6_firstBroken (wsV RX6 59 RX6 yX6_judge wsX6_judge) := goodIn_app (goodIn_of _ (by decide +kernel)) ggX6_firstBroken_X6_judge
theorem dX6_firstBroken_0 : decode cX6_firstBroken 0 = .ok (.aload_n 0, 1) := by decide +kernel
theorem dX6_firstBroken_1 : decode cX6_firstBroken 1 = .ok (.getfield 51, 3) := by decide +kernel
theorem dX6_firstBroken_4 : decode cX6_firstBroken 4 = .ok (.ifCond .ne 16, 3) := by decide +kernel
theorem dX6_firstBroken_7 : decode cX6_firstBroken 7 = .ok (.aload_n 0, 1) := by decide +kernel
theorem dX6_firstBroken_8 : decode cX6_firstBroken 8 = .ok (.aload_n 0, 1) := by decide +kernel
theorem dX6_firstBroken_9 : decode cX6_firstBroken 9 = .ok (.invokevirtual 59, 3) := by decide +kernel
theorem dX6_firstBroken_12 : decode cX6_firstBroken 12 = .ok (.putfield 62, 3) := by decide +kernel
theorem dX6_firstBroken_15 : decode cX6_firstBroken 15 = .ok (.aload_n 0, 1) := by decide +kernel
theorem dX6_firstBroken_16 : decode cX6_firstBroken 16 = .ok (.iconst 1, 1) := by decide +kernel
theorem dX6_firstBroken_17 : decode cX6_firstBroken 17 = .ok (.putfield 51, 3) := by decide +kernel
theorem dX6_firstBroken_20 : decode cX6_firstBroken 20 = .ok (.aload_n 0, 1) := by decide +kernel
theorem dX6_firstBroken_21 : decode cX6_firstBroken 21 = .ok (.getfield 62, 3) := by decide +kernel
theorem dX6_firstBroken_24 : decode cX6_firstBroken 24 = .ok (.ireturn, 1) := by decide +kernel
set_option maxRecDepth 20000 in
theorem ggX6_judge_X6_isPositive : GoodIn wsX6_judge wsX6_isPositive := goodIn_r _ [5, 6, 7, 8, 69, 70, 71, 72, 73, 74, 75, 76, 77, 78, 79, 80, 81] (by decide +kernel) (by decide +kernel)
set_option maxRecDepth 20000 in
theorem gX6_judge_X6_isPositive : GoodIn wsX6_judge (wsV RX6 65 RX6 yX6_isPositive wsX6_isPositive) := goodIn_app (goodIn_of _ (by decide +kernel)) ggX6_judge_X6_isPositive
set_option maxRecDepth 20000 in
theorem ggX6_judge_X6_hasRoom : GoodIn wsX6_judge wsX6_hasRoom := goodIn_r _ [12, 6, 13, 14, 15, 4, 16, 7, 8, 69, 70, 71, 72, 73, 74, 75, 76, 77, 78, 79, 80, 81] (by decide +kernel) (by decide +kernel)
set_option maxRecDepth 20000 in
theorem gX6_judge_X6_hasRoom : GoodIn wsX6_judge (wsV RX6 69 RX6 yX6_hasRoom wsX6_hasRoom) := goodIn_app (goodIn_of _ (by decide +kernel)) ggX6_judge_X6_hasRoom
set_option maxRecDepth 20000 in
theorem ggX6_judge_X6_isInOrder : GoodIn wsX6_judge wsX6_isInOrder := goodIn_r _ [20, 6, 8, 7, 69, 70, 71, 72, 73, 74, 75, 76, 77, 78, 79, 80, 81] (by decide +kernel) (by decide +kernel)
set_option maxRecDepth 20000 in
theorem gX6_judge_X6_isInOrder : GoodIn wsX6_judge (wsV RX6 72 RX6 yX6_isInOrder wsX6_isInOrder) := goodIn_app (goodIn_of _ (by decide +kernel)) ggX6_judge_X6_isInOrder
set_option maxRecDepth 20000 in
theorem ggX6_judge_X6_countLayers : GoodIn wsX6_judge wsX6_countLayers := goodIn_r _ [24, 25, 26, 6, 7, 8, 27, 69, 70, 71, 72, 73, 74, 75, 76, 77, 78, 79, 80, 81] (by decide +kernel) (by decide +kernel)
set_option maxRecDepth 20000 in
theorem gX6_judge_X6_countLayers : GoodIn wsX6_judge (wsV RX6 75 RX6 yX6_countLayers wsX6_countLayers) := goodIn_app (goodIn_of _ (by decide +kernel)) ggX6_judge_X6_countLayers
set_option maxRecDepth 20000 in
theorem ggX6_judge_X6_isPaired : GoodIn wsX6_judge wsX6_isPaired := goodIn_r _ [31, 6, 25, 32, 7, 26, 13, 14, 15, 4, 16, 8, 69, 70, 71, 72, 73, 74, 75, 76, 77, 78, 79, 80, 81] (by decide +kernel) (by decide +kernel)
set_option maxRecDepth 20000 in
theorem gX6_judge_X6_isPaired : GoodIn wsX6_judge (wsV RX6 78 RX6 yX6_isPaired wsX6_isPaired) := goodIn_app (goodIn_of _ (by decide +kernel)) ggX6_judge_X6_isPaired
set_option maxRecDepth 20000 in
theorem ggX6_judge_X6_layFirstThirds : GoodIn wsX6_judge wsX6_layFirstThirds := goodIn_r _ [36, 6, 37, 38, 39, 4, 40, 41, 42, 43, 44, 8, 7, 13, 14, 15, 16, 69, 70, 71, 72, 73, 74, 75, 76, 77, 78, 79, 80, 81] (by decide +kernel) (by decide +kernel)
set_option maxRecDepth 20000 in
theorem gX6_judge_X6_layFirstThirds : GoodIn wsX6_judge (wsV RX6 81 RX6 yX6_layFirstThirds wsX6_layFirstThirds) := goodIn_app (goodIn_of _ (by decide +kernel)) ggX6_judge_X6_layFirstThirds
set_option maxRecDepth 20000 in
theorem ggX6_judge_X6_layOtherThirds : GoodIn wsX6_judge wsX6_layOtherThirds := goodIn_r _ [48, 6, 8, 37, 49, 50, 51, 4, 52, 7, 13, 14, 15, 16, 38, 39, 40, 69, 70, 71, 72, 73, 74, 75, 76, 77, 78, 79, 80, 81] (by decide +kernel) (by decide +kernel)
set_option maxRecDepth 20000 in
theorem gX6_judge_X6_layOtherThirds : GoodIn wsX6_judge (wsV RX6 84 RX6 yX6_layOtherThirds wsX6_layOtherThirds) := goodIn_app (goodIn_of _ (by decide +kernel)) ggX6_judge_X6_layOtherThirds
set_option maxRecDepth 20000 in
theorem ggX6_judge_X6_findRoots : GoodIn wsX6_judge wsX6_findRoots := goodIn_r _ [56, 57, 7, 58, 59, 60, 61, 62, 4, 63, 64, 6, 8, 13, 14, 15, 16, 65, 66, 67, 68, 26, 69, 70, 71, 72, 73, 74, 75, 76, 77, 78, 79, 80, 81] (by decide +kernel) (by decide +kernel)
set_option maxRecDepth 20000 in
theorem gX6_judge_X6_findRoots : GoodIn wsX6_judge (wsV RX6 87 RX6 yX6_findRoots wsX6_findRoots) := goodIn_app (goodIn_of _ (by decide +kernel)) ggX6_judge_X6_findRoots
theorem dX6_judge_0 : decode cX6_judge 0 = .ok (.aload_n 0, 1) := by decide +kernel
theorem dX6_judge_1 : decode cX6_judge 1 = .ok (.invokevirtual 65, 3) := by decide +kernel
theorem dX6_judge_4 : decode cX6_judge 4 = .ok (.ifCond .ne 5, 3) := by decide +kernel
theorem dX6_judge_7 : decode cX6_judge 7 = .ok (.iconst 1, 1) := by decide +kernel
theorem dX6_judge_8 : decode cX6_judge 8 = .ok (.ireturn, 1) := by decide +kernel
theorem dX6_judge_9 : decode cX6_judge 9 = .ok (.aload_n 0, 1) := by decide +kernel
theorem dX6_judge_10 : decode cX6_judge 10 = .ok (.invokevirtual 69, 3) := by decide +kernel
theorem dX6_judge_13 : decode cX6_judge 13 = .ok (.ifCond .ne 5, 3) := by decide +kernel
theorem dX6_judge_16 : decode cX6_judge 16 = .ok (.iconst 2, 1) := by decide +kernel
theorem dX6_judge_17 : decode cX6_judge 17 = .ok (.ireturn, 1) := by decide +kernel
theorem dX6_judge_18 : decode cX6_judge 18 = .ok (.aload_n 0, 1) := by decide +kernel
theorem dX6_judge_19 : decode cX6_judge 19 = .ok (.invokevirtual 72, 3) := by decide +kernel
theorem dX6_judge_22 : decode cX6_judge 22 = .ok (.ifCond .ne 5, 3) := by decide +kernel
theorem dX6_judge_25 : decode cX6_judge 25 = .ok (.iconst 3, 1) := by decide +kernel
theorem dX6_judge_26 : decode cX6_judge 26 = .ok (.ireturn, 1) := by decide +kernel
theorem dX6_judge_27 : decode cX6_judge 27 = .ok (.aload_n 0, 1) := by decide +kernel
theorem dX6_judge_28 : decode cX6_judge 28 = .ok (.invokevirtual 75, 3) := by decide +kernel
theorem dX6_judge_31 : decode cX6_judge 31 = .ok (.ifCond .ne 5, 3) := by decide +kernel
theorem dX6_judge_34 : decode cX6_judge 34 = .ok (.iconst 4, 1) := by decide +kernel
theorem dX6_judge_35 : decode cX6_judge 35 = .ok (.ireturn, 1) := by decide +kernel
theorem dX6_judge_36 : decode cX6_judge 36 = .ok (.aload_n 0, 1) := by decide +kernel
theorem dX6_judge_37 : decode cX6_judge 37 = .ok (.invokevirtual 78, 3) := by decide +kernel
theorem dX6_judge_40 : decode cX6_judge 40 = .ok (.ifCond .ne 5, 3) := by decide +kernel
theorem dX6_judge_43 : decode cX6_judge 43 = .ok (.iconst 5, 1) := by decide +kernel
theorem dX6_judge_44 : decode cX6_judge 44 = .ok (.ireturn, 1) := by decide +kernel
theorem dX6_judge_45 : decode cX6_judge 45 = .ok (.aload_n 0, 1) := by decide +kernel
theorem dX6_judge_46 : decode cX6_judge 46 = .ok (.invokevirtual 81, 3) := by decide +kernel
theorem dX6_judge_49 : decode cX6_judge 49 = .ok (.aload_n 0, 1) := by decide +kernel
theorem dX6_judge_50 : decode cX6_judge 50 = .ok (.invokevirtual 84, 3) := by decide +kernel
theorem dX6_judge_53 : decode cX6_judge 53 = .ok (.ifCond .ne 6, 3) := by decide +kernel
theorem dX6_judge_56 : decode cX6_judge 56 = .ok (.bipush 6, 2) := by decide +kernel
theorem dX6_judge_58 : decode cX6_judge 58 = .ok (.ireturn, 1) := by decide +kernel
theorem dX6_judge_59 : decode cX6_judge 59 = .ok (.aload_n 0, 1) := by decide +kernel
theorem dX6_judge_60 : decode cX6_judge 60 = .ok (.invokevirtual 87, 3) := by decide +kernel
theorem dX6_judge_63 : decode cX6_judge 63 = .ok (.ifCond .eq 7, 3) := by decide +kernel
theorem dX6_judge_66 : decode cX6_judge 66 = .ok (.iconst 0, 1) := by decide +kernel
theorem dX6_judge_67 : decode cX6_judge 67 = .ok (.goto 5, 3) := by decide +kernel
theorem dX6_judge_70 : decode cX6_judge 70 = .ok (.bipush 7, 2) := by decide +kernel
theorem dX6_judge_72 : decode cX6_judge 72 = .ok (.ireturn, 1) := by decide +kernel
theorem dX6_isPositive_0 : decode cX6_isPositive 0 = .ok (.iconst 0, 1) := by decide +kernel
theorem dX6_isPositive_1 : decode cX6_isPositive 1 = .ok (.istore_n 1, 1) := by decide +kernel
theorem dX6_isPositive_2 : decode cX6_isPositive 2 = .ok (.iload_n 1, 1) := by decide +kernel
theorem dX6_isPositive_3 : decode cX6_isPositive 3 = .ok (.aload_n 0, 1) := by decide +kernel
theorem dX6_isPositive_4 : decode cX6_isPositive 4 = .ok (.getfield 41, 3) := by decide +kernel
theorem dX6_isPositive_7 : decode cX6_isPositive 7 = .ok (.if_icmp .ge 33, 3) := by decide +kernel
theorem dX6_isPositive_10 : decode cX6_isPositive 10 = .ok (.aload_n 0, 1) := by decide +kernel
theorem dX6_isPositive_11 : decode cX6_isPositive 11 = .ok (.getfield 9, 3) := by decide +kernel
theorem dX6_isPositive_14 : decode cX6_isPositive 14 = .ok (.iload_n 1, 1) := by decide +kernel
theorem dX6_isPositive_15 : decode cX6_isPositive 15 = .ok (.iaload, 1) := by decide +kernel
theorem dX6_isPositive_16 : decode cX6_isPositive 16 = .ok (.iconst 1, 1) := by decide +kernel
theorem dX6_isPositive_17 : decode cX6_isPositive 17 = .ok (.if_icmp .lt 15, 3) := by decide +kernel
theorem dX6_isPositive_20 : decode cX6_isPositive 20 = .ok (.aload_n 0, 1) := by decide +kernel
theorem dX6_isPositive_21 : decode cX6_isPositive 21 = .ok (.getfield 15, 3) := by decide +kernel
theorem dX6_isPositive_24 : decode cX6_isPositive 24 = .ok (.iload_n 1, 1) := by decide +kernel
theorem dX6_isPositive_25 : decode cX6_isPositive 25 = .ok (.iconst 1, 1) := by decide +kernel
theorem dX6_isPositive_26 : decode cX6_isPositive 26 = .ok (.iadd, 1) := by decide +kernel
theorem dX6_isPositive_27 : decode cX6_isPositive 27 = .ok (.iaload, 1) := by decide +kernel
theorem dX6_isPositive_28 : decode cX6_isPositive 28 = .ok (.iconst 1, 1) := by decide +kernel
theorem dX6_isPositive_29 : decode cX6_isPositive 29 = .ok (.if_icmp .ge 5, 3) := by decide +kernel
theorem dX6_isPositive_32 : decode cX6_isPositive 32 = .ok (.iconst 0, 1) := by decide +kernel
theorem dX6_isPositive_33 : decode cX6_isPositive 33 = .ok (.ireturn, 1) := by decide +kernel
theorem dX6_isPositive_34 : decode cX6_isPositive 34 = .ok (.iinc 1 1, 3) := by decide +kernel
theorem dX6_isPositive_37 : decode cX6_isPositive 37 = .ok (.goto (-35), 3) := by decide +kernel
theorem dX6_isPositive_40 : decode cX6_isPositive 40 = .ok (.aload_n 0, 1) := by decide +kernel
theorem dX6_isPositive_41 : decode cX6_isPositive 41 = .ok (.getfield 15, 3) := by decide +kernel
theorem dX6_isPositive_44 : decode cX6_isPositive 44 = .ok (.iconst 1, 1) := by decide +kernel
theorem dX6_isPositive_45 : decode cX6_isPositive 45 = .ok (.iaload, 1) := by decide +kernel
theorem dX6_isPositive_46 : decode cX6_isPositive 46 = .ok (.iconst 1, 1) := by decide +kernel
theorem dX6_isPositive_47 : decode cX6_isPositive 47 = .ok (.if_icmp .ne 7, 3) := by decide +kernel
theorem dX6_isPositive_50 : decode cX6_isPositive 50 = .ok (.iconst 1, 1) := by decide +kernel
theorem dX6_isPositive_51 : decode cX6_isPositive 51 = .ok (.goto 4, 3) := by decide +kernel
theorem dX6_isPositive_54 : decode cX6_isPositive 54 = .ok (.iconst 0, 1) := by decide +kernel
theorem dX6_isPositive_55 : decode cX6_isPositive 55 = .ok (.ireturn, 1) := by decide +kernel
set_option maxRecDepth 20000 in
theorem ggX6_hasRoom_X6_level : GoodIn wsX6_hasRoom wsX6_level := goodIn_r _ [6, 7, 8, 9, 10, 11, 12, 13, 14, 15, 16, 17, 18, 19, 20, 21] (by decide +kernel) (by decide +kernel)
set_option maxRecDepth 20000 in
theorem gX6_hasRoom_X6_level : GoodIn wsX6_hasRoom (wsV RX6 90 RX6 yX6_level wsX6_level) := goodIn_app (goodIn_of _ (by decide +kernel)) ggX6_hasRoom_X6_level
theorem dX6_hasRoom_0 : decode cX6_hasRoom 0 = .ok (.iconst 0, 1) := by decide +kernel
theorem dX6_hasRoom_1 : decode cX6_hasRoom 1 = .ok (.istore_n 1, 1) := by decide +kernel
theorem dX6_hasRoom_2 : decode cX6_hasRoom 2 = .ok (.iload_n 1, 1) := by decide +kernel
theorem dX6_hasRoom_3 : decode cX6_hasRoom 3 = .ok (.aload_n 0, 1) := by decide +kernel
theorem dX6_hasRoom_4 : decode cX6_hasRoom 4 = .ok (.getfield 41, 3) := by decide +kernel
theorem dX6_hasRoom_7 : decode cX6_hasRoom 7 = .ok (.if_icmp .gt 19, 3) := by decide +kernel
theorem dX6_hasRoom_10 : decode cX6_hasRoom 10 = .ok (.aload_n 0, 1) := by decide +kernel
theorem dX6_hasRoom_11 : decode cX6_hasRoom 11 = .ok (.iload_n 1, 1) := by decide +kernel
theorem dX6_hasRoom_12 : decode cX6_hasRoom 12 = .ok (.invokevirtual 90, 3) := by decide +kernel
theorem dX6_hasRoom_15 : decode cX6_hasRoom 15 = .ok (.ifCond .ge 5, 3) := by decide +kernel
theorem dX6_hasRoom_18 : decode cX6_hasRoom 18 = .ok (.iconst 0, 1) := by decide +kernel
theorem dX6_hasRoom_19 : decode cX6_hasRoom 19 = .ok (.ireturn, 1) := by decide +kernel
theorem dX6_hasRoom_20 : decode cX6_hasRoom 20 = .ok (.iinc 1 1, 3) := by decide +kernel
theorem dX6_hasRoom_23 : decode cX6_hasRoom 23 = .ok (.goto (-21), 3) := by decide +kernel
theorem dX6_hasRoom_26 : decode cX6_hasRoom 26 = .ok (.aload_n 0, 1) := by decide +kernel
theorem dX6_hasRoom_27 : decode cX6_hasRoom 27 = .ok (.iconst 0, 1) := by decide +kernel
theorem dX6_hasRoom_28 : decode cX6_hasRoom 28 = .ok (.invokevirtual 90, 3) := by decide +kernel
theorem dX6_hasRoom_31 : decode cX6_hasRoom 31 = .ok (.ifCond .ne 7, 3) := by decide +kernel
theorem dX6_hasRoom_34 : decode cX6_hasRoom 34 = .ok (.iconst 1, 1) := by decide +kernel
theorem dX6_hasRoom_35 : decode cX6_hasRoom 35 = .ok (.goto 4, 3) := by decide +kernel
theorem dX6_hasRoom_38 : decode cX6_hasRoom 38 = .ok (.iconst 0, 1) := by decide +kernel
theorem dX6_hasRoom_39 : decode cX6_hasRoom 39 = .ok (.ireturn, 1) := by decide +kernel
theorem dX6_isInOrder_0 : decode cX6_isInOrder 0 = .ok (.iconst 0, 1) := by decide +kernel
theorem dX6_isInOrder_1 : decode cX6_isInOrder 1 = .ok (.istore_n 1, 1) := by decide +kernel
theorem dX6_isInOrder_2 : decode cX6_isInOrder 2 = .ok (.iload_n 1, 1) := by decide +kernel
theorem dX6_isInOrder_3 : decode cX6_isInOrder 3 = .ok (.aload_n 0, 1) := by decide +kernel
theorem dX6_isInOrder_4 : decode cX6_isInOrder 4 = .ok (.getfield 41, 3) := by decide +kernel
theorem dX6_isInOrder_7 : decode cX6_isInOrder 7 = .ok (.if_icmp .ge 55, 3) := by decide +kernel
theorem dX6_isInOrder_10 : decode cX6_isInOrder 10 = .ok (.aload_n 0, 1) := by decide +kernel
theorem dX6_isInOrder_11 : decode cX6_isInOrder 11 = .ok (.getfield 15, 3) := by decide +kernel
theorem dX6_isInOrder_14 : decode cX6_isInOrder 14 = .ok (.iload_n 1, 1) := by decide +kernel
theorem dX6_isInOrder_15 : decode cX6_isInOrder 15 = .ok (.iaload, 1) := by decide +kernel
theorem dX6_isInOrder_16 : decode cX6_isInOrder 16 = .ok (.aload_n 0, 1) := by decide +kernel
theorem dX6_isInOrder_17 : decode cX6_isInOrder 17 = .ok (.getfield 15, 3) := by decide +kernel
theorem dX6_isInOrder_20 : decode cX6_isInOrder 20 = .ok (.iload_n 1, 1) := by decide +kernel
theorem dX6_isInOrder_21 : decode cX6_isInOrder 21 = .ok (.iconst 1, 1) := by decide +kernel
theorem dX6_isInOrder_22 : decode cX6_isInOrder 22 = .ok (.iadd, 1) := by decide +kernel
theorem dX6_isInOrder_23 : decode cX6_isInOrder 23 = .ok (.iaload, 1) := by decide +kernel
theorem dX6_isInOrder_24 : decode cX6_isInOrder 24 = .ok (.if_icmp .gt 30, 3) := by decide +kernel
theorem dX6_isInOrder_27 : decode cX6_isInOrder 27 = .ok (.iload_n 1, 1) := by decide +kernel
theorem dX6_isInOrder_28 : decode cX6_isInOrder 28 = .ok (.iconst 1, 1) := by decide +kernel
theorem dX6_isInOrder_29 : decode cX6_isInOrder 29 = .ok (.iadd, 1) := by decide +kernel
theorem dX6_isInOrder_30 : decode cX6_isInOrder 30 = .ok (.aload_n 0, 1) := by decide +kernel
theorem dX6_isInOrder_31 : decode cX6_isInOrder 31 = .ok (.getfield 41, 3) := by decide +kernel
theorem dX6_isInOrder_34 : decode cX6_isInOrder 34 = .ok (.if_icmp .ge 22, 3) := by decide +kernel
theorem dX6_isInOrder_37 : decode cX6_isInOrder 37 = .ok (.aload_n 0, 1) := by decide +kernel
theorem dX6_isInOrder_38 : decode cX6_isInOrder 38 = .ok (.getfield 9, 3) := by decide +kernel
theorem dX6_isInOrder_41 : decode cX6_isInOrder 41 = .ok (.iload_n 1, 1) := by decide +kernel
theorem dX6_isInOrder_42 : decode cX6_isInOrder 42 = .ok (.iaload, 1) := by decide +kernel
theorem dX6_isInOrder_43 : decode cX6_isInOrder 43 = .ok (.aload_n 0, 1) := by decide +kernel
theorem dX6_isInOrder_44 : decode cX6_isInOrder 44 = .ok (.getfield 9, 3) := by decide +kernel
theorem dX6_isInOrder_47 : decode cX6_isInOrder 47 = .ok (.iload_n 1, 1) := by decide +kernel
theorem dX6_isInOrder_48 : decode cX6_isInOrder 48 = .ok (.iconst 1, 1) := by decide +kernel
theorem dX6_isInOrder_49 : decode cX6_isInOrder 49 = .ok (.iadd, 1) := by decide +kernel
theorem dX6_isInOrder_50 : decode cX6_isInOrder 50 = .ok (.iaload, 1) := by decide +kernel
theorem dX6_isInOrder_51 : decode cX6_isInOrder 51 = .ok (.if_icmp .ge 5, 3) := by decide +kernel
theorem dX6_isInOrder_54 : decode cX6_isInOrder 54 = .ok (.iconst 0, 1) := by decide +kernel
theorem dX6_isInOrder_55 : decode cX6_isInOrder 55 = .ok (.ireturn, 1) := by decide +kernel
theorem dX6_isInOrder_56 : decode cX6_isInOrder 56 = .ok (.iinc 1 1, 3) := by decide +kernel
theorem dX6_isInOrder_59 : decode cX6_isInOrder 59 = .ok (.goto (-57), 3) := by decide +kernel
theorem dX6_isInOrder_62 : decode cX6_isInOrder 62 = .ok (.iconst 1, 1) := by decide +kernel
theorem dX6_isInOrder_63 : decode cX6_isInOrder 63 = .ok (.ireturn, 1) := by decide +kernel
theorem dX6_countLayers_0 : decode cX6_countLayers 0 = .ok (.aload_n 0, 1) := by decide +kernel
theorem dX6_countLayers_1 : decode cX6_countLayers 1 = .ok (.getfield 18, 3) := by decide +kernel
theorem dX6_countLayers_4 : decode cX6_countLayers 4 = .ok (.iconst 0, 1) := by decide +kernel
theorem dX6_countLayers_5 : decode cX6_countLayers 5 = .ok (.lconst 1, 1) := by decide +kernel
theorem dX6_countLayers_6 : decode cX6_countLayers 6 = .ok (.lastore, 1) := by decide +kernel
theorem dX6_countLayers_7 : decode cX6_countLayers 7 = .ok (.aload_n 0, 1) := by decide +kernel
theorem dX6_countLayers_8 : decode cX6_countLayers 8 = .ok (.lconst 1, 1) := by decide +kernel
theorem dX6_countLayers_9 : decode cX6_countLayers 9 = .ok (.putfield 94, 3) := by decide +kernel
theorem dX6_countLayers_12 : decode cX6_countLayers 12 = .ok (.iconst 1, 1) := by decide +kernel
theorem dX6_countLayers_13 : decode cX6_countLayers 13 = .ok (.istore_n 1, 1) := by decide +kernel
theorem dX6_countLayers_14 : decode cX6_countLayers 14 = .ok (.iload_n 1, 1) := by decide +kernel
theorem dX6_countLayers_15 : decode cX6_countLayers 15 = .ok (.aload_n 0, 1) := by decide +kernel
theorem dX6_countLayers_16 : decode cX6_countLayers 16 = .ok (.getfield 41, 3) := by decide +kernel
theorem dX6_countLayers_19 : decode cX6_countLayers 19 = .ok (.if_icmp .gt 83, 3) := by decide +kernel
theorem dX6_countLayers_22 : decode cX6_countLayers 22 = .ok (.aload_n 0, 1) := by decide +kernel
theorem dX6_countLayers_23 : decode cX6_countLayers 23 = .ok (.getfield 18, 3) := by decide +kernel
theorem dX6_countLayers_26 : decode cX6_countLayers 26 = .ok (.iload_n 1, 1) := by decide +kernel
theorem dX6_countLayers_27 : decode cX6_countLayers 27 = .ok (.iconst 1, 1) := by decide +kernel
theorem dX6_countLayers_28 : decode cX6_countLayers 28 = .ok (.isub, 1) := by decide +kernel
theorem dX6_countLayers_29 : decode cX6_countLayers 29 = .ok (.laload, 1) := by decide +kernel
theorem dX6_countLayers_30 : decode cX6_countLayers 30 = .ok (.aload_n 0, 1) := by decide +kernel
theorem dX6_countLayers_31 : decode cX6_countLayers 31 = .ok (.getfield 9, 3) := by decide +kernel
theorem dX6_countLayers_34 : decode cX6_countLayers 34 = .ok (.iload_n 1, 1) := by decide +kernel
theorem dX6_countLayers_35 : decode cX6_countLayers 35 = .ok (.iconst 1, 1) := by decide +kernel
theorem dX6_countLayers_36 : decode cX6_countLayers 36 = .ok (.isub, 1) := by decide +kernel
theorem dX6_countLayers_37 : decode cX6_countLayers 37 = .ok (.iaload, 1) := by decide +kernel
theorem dX6_countLayers_38 : decode cX6_countLayers 38 = .ok (.i2l, 1) := by decide +kernel
theorem dX6_countLayers_39 : decode cX6_countLayers 39 = .ok (.lmul, 1) := by decide +kernel
theorem dX6_countLayers_40 : decode cX6_countLayers 40 = .ok (.lstore_n 2, 1) := by decide +kernel
theorem dX6_countLayers_41 : decode cX6_countLayers 41 = .ok (.aload_n 0, 1) := by decide +kernel
theorem dX6_countLayers_42 : decode cX6_countLayers 42 = .ok (.getfield 15, 3) := by decide +kernel
theorem dX6_countLayers_45 : decode cX6_countLayers 45 = .ok (.iload_n 1, 1) := by decide +kernel
theorem dX6_countLayers_46 : decode cX6_countLayers 46 = .ok (.iaload, 1) := by decide +kernel
theorem dX6_countLayers_47 : decode cX6_countLayers 47 = .ok (.ifCond .eq 17, 3) := by decide +kernel
theorem dX6_countLayers_50 : decode cX6_countLayers 50 = .ok (.lload_n 2, 1) := by decide +kernel
theorem dX6_countLayers_51 : decode cX6_countLayers 51 = .ok (.aload_n 0, 1) := by decide +kernel
theorem dX6_countLayers_52 : decode cX6_countLayers 52 = .ok (.getfield 15, 3) := by decide +kernel
theorem dX6_countLayers_55 : decode cX6_countLayers 55 = .ok (.iload_n 1, 1) := by decide +kernel
theorem dX6_countLayers_56 : decode cX6_countLayers 56 = .ok (.iaload, 1) := by decide +kernel
theorem dX6_countLayers_57 : decode cX6_countLayers 57 = .ok (.i2l, 1) := by decide +kernel
theorem dX6_countLayers_58 : decode cX6_countLayers 58 = .ok (.lrem, 1) := by decide +kernel
theorem dX6_countLayers_59 : decode cX6_countLayers 59 = .ok (.lconst 0, 1) := by decide +kernel
theorem dX6_countLayers_60 : decode cX6_countLayers 60 = .ok (.lcmp, 1) := by decide +kernel
theorem dX6_countLayers_61 : decode cX6_countLayers 61 = .ok (.ifCond .eq 5, 3) := by decide +kernel
theorem dX6_countLayers_64 : decode cX6_countLayers 64 = .ok (.iconst 0, 1) := by decide +kernel
theorem dX6_countLayers_65 : decode cX6_countLayers 65 = .ok (.ireturn, 1) := by decide +kernel
theorem dX6_countLayers_66 : decode cX6_countLayers 66 = .ok (.aload_n 0, 1) := by decide +kernel
theorem dX6_countLayers_67 : decode cX6_countLayers 67 = .ok (.getfield 18, 3) := by decide +kernel
theorem dX6_countLayers_70 : decode cX6_countLayers 70 = .ok (.iload_n 1, 1) := by decide +kernel
theorem dX6_countLayers_71 : decode cX6_countLayers 71 = .ok (.lload_n 2, 1) := by decide +kernel
theorem dX6_countLayers_72 : decode cX6_countLayers 72 = .ok (.aload_n 0, 1) := by decide +kernel
theorem dX6_countLayers_73 : decode cX6_countLayers 73 = .ok (.getfield 15, 3) := by decide +kernel
theorem dX6_countLayers_76 : decode cX6_countLayers 76 = .ok (.iload_n 1, 1) := by decide +kernel
theorem dX6_countLayers_77 : decode cX6_countLayers 77 = .ok (.iaload, 1) := by decide +kernel
theorem dX6_countLayers_78 : decode cX6_countLayers 78 = .ok (.i2l, 1) := by decide +kernel
theorem dX6_countLayers_79 : decode cX6_countLayers 79 = .ok (.ldiv, 1) := by decide +kernel
theorem dX6_countLayers_80 : decode cX6_countLayers 80 = .ok (.lastore, 1) := by decide +kernel
theorem dX6_countLayers_81 : decode cX6_countLayers 81 = .ok (.aload_n 0, 1) := by decide +kernel
theorem dX6_countLayers_82 : decode cX6_countLayers 82 = .ok (.dup, 1) := by decide +kernel
theorem dX6_countLayers_83 : decode cX6_countLayers 83 = .ok (.getfield 94, 3) := by decide +kernel
theorem dX6_countLayers_86 : decode cX6_countLayers 86 = .ok (.aload_n 0, 1) := by decide +kernel
theorem dX6_countLayers_87 : decode cX6_countLayers 87 = .ok (.getfield 18, 3) := by decide +kernel
theorem dX6_countLayers_90 : decode cX6_countLayers 90 = .ok (.iload_n 1, 1) := by decide +kernel
theorem dX6_countLayers_91 : decode cX6_countLayers 91 = .ok (.laload, 1) := by decide +kernel
theorem dX6_countLayers_92 : decode cX6_countLayers 92 = .ok (.ladd, 1) := by decide +kernel
theorem dX6_countLayers_93 : decode cX6_countLayers 93 = .ok (.putfield 94, 3) := by decide +kernel
theorem dX6_countLayers_96 : decode cX6_countLayers 96 = .ok (.iinc 1 1, 3) := by decide +kernel
theorem dX6_countLayers_99 : decode cX6_countLayers 99 = .ok (.goto (-85), 3) := by decide +kernel
theorem dX6_countLayers_102 : decode cX6_countLayers 102 = .ok (.aload_n 0, 1) := by decide +kernel
theorem dX6_countLayers_103 : decode cX6_countLayers 103 = .ok (.getfield 94, 3) := by decide +kernel
theorem dX6_countLayers_106 : decode cX6_countLayers 106 = .ok (.ldc2_w 98, 3) := by decide +kernel
theorem dX6_countLayers_109 : decode cX6_countLayers 109 = .ok (.lcmp, 1) := by decide +kernel
theorem dX6_countLayers_110 : decode cX6_countLayers 110 = .ok (.ifCond .gt 7, 3) := by decide +kernel
theorem dX6_countLayers_113 : decode cX6_countLayers 113 = .ok (.iconst 1, 1) := by decide +kernel
theorem dX6_countLayers_114 : decode cX6_countLayers 114 = .ok (.goto 4, 3) := by decide +kernel
theorem dX6_countLayers_117 : decode cX6_countLayers 117 = .ok (.iconst 0, 1) := by decide +kernel
theorem dX6_countLayers_118 : decode cX6_countLayers 118 = .ok (.ireturn, 1) := by decide +kernel
set_option maxRecDepth 20000 in
theorem ggX6_isPaired_X6_level : GoodIn wsX6_isPaired wsX6_level := goodIn_r _ [10, 4, 11, 12, 13, 14, 15, 16, 17, 18, 19, 20, 21, 22, 23, 24] (by decide +kernel) (by decide +kernel)
set_option maxRecDepth 20000 in
theorem gX6_isPaired_X6_level : GoodIn wsX6_isPaired (wsV RX6 90 RX6 yX6_level wsX6_level) := goodIn_app (goodIn_of _ (by decide +kernel)) ggX6_isPaired_X6_level
theorem dX6_isPaired_0 : decode cX6_isPaired 0 = .ok (.iconst 0, 1) := by decide +kernel
theorem dX6_isPaired_1 : decode cX6_isPaired 1 = .ok (.istore_n 1, 1) := by decide +kernel
theorem dX6_isPaired_2 : decode cX6_isPaired 2 = .ok (.iload_n 1, 1) := by decide +kernel
theorem dX6_isPaired_3 : decode cX6_isPaired 3 = .ok (.aload_n 0, 1) := by decide +kernel
theorem dX6_isPaired_4 : decode cX6_isPaired 4 = .ok (.getfield 41, 3) := by decide +kernel
theorem dX6_isPaired_7 : decode cX6_isPaired 7 = .ok (.if_icmp .gt 33, 3) := by decide +kernel
theorem dX6_isPaired_10 : decode cX6_isPaired 10 = .ok (.aload_n 0, 1) := by decide +kernel
theorem dX6_isPaired_11 : decode cX6_isPaired 11 = .ok (.getfield 18, 3) := by decide +kernel
theorem dX6_isPaired_14 : decode cX6_isPaired 14 = .ok (.iload_n 1, 1) := by decide +kernel
theorem dX6_isPaired_15 : decode cX6_isPaired 15 = .ok (.laload, 1) := by decide +kernel
theorem dX6_isPaired_16 : decode cX6_isPaired 16 = .ok (.aload_n 0, 1) := by decide +kernel
theorem dX6_isPaired_17 : decode cX6_isPaired 17 = .ok (.iload_n 1, 1) := by decide +kernel
theorem dX6_isPaired_18 : decode cX6_isPaired 18 = .ok (.invokevirtual 90, 3) := by decide +kernel
theorem dX6_isPaired_21 : decode cX6_isPaired 21 = .ok (.i2l, 1) := by decide +kernel
theorem dX6_isPaired_22 : decode cX6_isPaired 22 = .ok (.lmul, 1) := by decide +kernel
theorem dX6_isPaired_23 : decode cX6_isPaired 23 = .ok (.ldc2_w 100, 3) := by decide +kernel
theorem dX6_isPaired_26 : decode cX6_isPaired 26 = .ok (.lrem, 1) := by decide +kernel
theorem dX6_isPaired_27 : decode cX6_isPaired 27 = .ok (.lconst 0, 1) := by decide +kernel
theorem dX6_isPaired_28 : decode cX6_isPaired 28 = .ok (.lcmp, 1) := by decide +kernel
theorem dX6_isPaired_29 : decode cX6_isPaired 29 = .ok (.ifCond .eq 5, 3) := by decide +kernel
theorem dX6_isPaired_32 : decode cX6_isPaired 32 = .ok (.iconst 0, 1) := by decide +kernel
theorem dX6_isPaired_33 : decode cX6_isPaired 33 = .ok (.ireturn, 1) := by decide +kernel
theorem dX6_isPaired_34 : decode cX6_isPaired 34 = .ok (.iinc 1 1, 3) := by decide +kernel
theorem dX6_isPaired_37 : decode cX6_isPaired 37 = .ok (.goto (-35), 3) := by decide +kernel
theorem dX6_isPaired_40 : decode cX6_isPaired 40 = .ok (.aload_n 0, 1) := by decide +kernel
theorem dX6_isPaired_41 : decode cX6_isPaired 41 = .ok (.getfield 9, 3) := by decide +kernel
theorem dX6_isPaired_44 : decode cX6_isPaired 44 = .ok (.iconst 0, 1) := by decide +kernel
theorem dX6_isPaired_45 : decode cX6_isPaired 45 = .ok (.iaload, 1) := by decide +kernel
theorem dX6_isPaired_46 : decode cX6_isPaired 46 = .ok (.i2l, 1) := by decide +kernel
theorem dX6_isPaired_47 : decode cX6_isPaired 47 = .ok (.aload_n 0, 1) := by decide +kernel
theorem dX6_isPaired_48 : decode cX6_isPaired 48 = .ok (.getfield 94, 3) := by decide +kernel
theorem dX6_isPaired_51 : decode cX6_isPaired 51 = .ok (.lmul, 1) := by decide +kernel
theorem dX6_isPaired_52 : decode cX6_isPaired 52 = .ok (.ldc2_w 100, 3) := by decide +kernel
theorem dX6_isPaired_55 : decode cX6_isPaired 55 = .ok (.lrem, 1) := by decide +kernel
theorem dX6_isPaired_56 : decode cX6_isPaired 56 = .ok (.lconst 0, 1) := by decide +kernel
theorem dX6_isPaired_57 : decode cX6_isPaired 57 = .ok (.lcmp, 1) := by decide +kernel
theorem dX6_isPaired_58 : decode cX6_isPaired 58 = .ok (.ifCond .ne 7, 3) := by decide +kernel
theorem dX6_isPaired_61 : decode cX6_isPaired 61 = .ok (.iconst 1, 1) := by decide +kernel
theorem dX6_isPaired_62 : decode cX6_isPaired 62 = .ok (.goto 4, 3) := by decide +kernel
theorem dX6_isPaired_65 : decode cX6_isPaired 65 = .ok (.iconst 0, 1) := by decide +kernel
theorem dX6_isPaired_66 : decode cX6_isPaired 66 = .ok (.ireturn, 1) := by decide +kernel
set_option maxRecDepth 20000 in
theorem ggX6_layFirstThirds_X6_place : GoodIn wsX6_layFirstThirds wsX6_place := goodIn_r _ [6] (by decide +kernel) (by decide +kernel)
set_option maxRecDepth 20000 in
theorem gX6_layFirstThirds_X6_place : GoodIn wsX6_layFirstThirds (va_wsS RX6 102 yX6_place wsX6_place) := goodIn_app (goodIn_of _ (by decide +kernel)) ggX6_layFirstThirds_X6_place
set_option maxRecDepth 20000 in
theorem ggX6_layFirstThirds_X6_firstThird : GoodIn wsX6_layFirstThirds wsX6_firstThird := goodIn_r _ [10, 11, 12, 13, 14, 15, 5, 16, 17, 18, 19, 20, 21, 22, 23, 24, 25, 26, 27, 28, 29] (by decide +kernel) (by decide +kernel)
set_option maxRecDepth 20000 in
theorem gX6_layFirstThirds_X6_firstThird : GoodIn wsX6_layFirstThirds (wsV RX6 106 RX6 yX6_firstThird wsX6_firstThird) := goodIn_app (goodIn_of _ (by decide +kernel)) ggX6_layFirstThirds_X6_firstThird
theorem dX6_layFirstThirds_0 : decode cX6_layFirstThirds 0 = .ok (.iconst 0, 1) := by decide +kernel
theorem dX6_layFirstThirds_1 : decode cX6_layFirstThirds 1 = .ok (.istore_n 1, 1) := by decide +kernel
theorem dX6_layFirstThirds_2 : decode cX6_layFirstThirds 2 = .ok (.iload_n 1, 1) := by decide +kernel
theorem dX6_layFirstThirds_3 : decode cX6_layFirstThirds 3 = .ok (.aload_n 0, 1) := by decide +kernel
theorem dX6_layFirstThirds_4 : decode cX6_layFirstThirds 4 = .ok (.getfield 41, 3) := by decide +kernel
theorem dX6_layFirstThirds_7 : decode cX6_layFirstThirds 7 = .ok (.if_icmp .gt 64, 3) := by decide +kernel
theorem dX6_layFirstThirds_10 : decode cX6_layFirstThirds 10 = .ok (.iconst 0, 1) := by decide +kernel
theorem dX6_layFirstThirds_11 : decode cX6_layFirstThirds 11 = .ok (.istore_n 2, 1) := by decide +kernel
theorem dX6_layFirstThirds_12 : decode cX6_layFirstThirds 12 = .ok (.iload_n 2, 1) := by decide +kernel
theorem dX6_layFirstThirds_13 : decode cX6_layFirstThirds 13 = .ok (.aload_n 0, 1) := by decide +kernel
theorem dX6_layFirstThirds_14 : decode cX6_layFirstThirds 14 = .ok (.getfield 41, 3) := by decide +kernel
theorem dX6_layFirstThirds_17 : decode cX6_layFirstThirds 17 = .ok (.if_icmp .gt 48, 3) := by decide +kernel
theorem dX6_layFirstThirds_20 : decode cX6_layFirstThirds 20 = .ok (.aload_n 0, 1) := by decide +kernel
theorem dX6_layFirstThirds_21 : decode cX6_layFirstThirds 21 = .ok (.getfield 22, 3) := by decide +kernel
theorem dX6_layFirstThirds_24 : decode cX6_layFirstThirds 24 = .ok (.iload_n 1, 1) := by decide +kernel
theorem dX6_layFirstThirds_25 : decode cX6_layFirstThirds 25 = .ok (.iconst 0, 1) := by decide +kernel
theorem dX6_layFirstThirds_26 : decode cX6_layFirstThirds 26 = .ok (.iload_n 2, 1) := by decide +kernel
theorem dX6_layFirstThirds_27 : decode cX6_layFirstThirds 27 = .ok (.invokestatic 102, 3) := by decide +kernel
theorem dX6_layFirstThirds_30 : decode cX6_layFirstThirds 30 = .ok (.iload_n 2, 1) := by decide +kernel
theorem dX6_layFirstThirds_31 : decode cX6_layFirstThirds 31 = .ok (.iload_n 1, 1) := by decide +kernel
theorem dX6_layFirstThirds_32 : decode cX6_layFirstThirds 32 = .ok (.if_icmp .ne 7, 3) := by decide +kernel
theorem dX6_layFirstThirds_35 : decode cX6_layFirstThirds 35 = .ok (.lconst 1, 1) := by decide +kernel
theorem dX6_layFirstThirds_36 : decode cX6_layFirstThirds 36 = .ok (.goto 4, 3) := by decide +kernel
theorem dX6_layFirstThirds_39 : decode cX6_layFirstThirds 39 = .ok (.lconst 0, 1) := by decide +kernel
theorem dX6_layFirstThirds_40 : decode cX6_layFirstThirds 40 = .ok (.lastore, 1) := by decide +kernel
theorem dX6_layFirstThirds_41 : decode cX6_layFirstThirds 41 = .ok (.aload_n 0, 1) := by decide +kernel
theorem dX6_layFirstThirds_42 : decode cX6_layFirstThirds 42 = .ok (.getfield 22, 3) := by decide +kernel
theorem dX6_layFirstThirds_45 : decode cX6_layFirstThirds 45 = .ok (.iload_n 1, 1) := by decide +kernel
theorem dX6_layFirstThirds_46 : decode cX6_layFirstThirds 46 = .ok (.iconst 1, 1) := by decide +kernel
theorem dX6_layFirstThirds_47 : decode cX6_layFirstThirds 47 = .ok (.iload_n 2, 1) := by decide +kernel
theorem dX6_layFirstThirds_48 : decode cX6_layFirstThirds 48 = .ok (.invokestatic 102, 3) := by decide +kernel
theorem dX6_layFirstThirds_51 : decode cX6_layFirstThirds 51 = .ok (.aload_n 0, 1) := by decide +kernel
theorem dX6_layFirstThirds_52 : decode cX6_layFirstThirds 52 = .ok (.iload_n 1, 1) := by decide +kernel
theorem dX6_layFirstThirds_53 : decode cX6_layFirstThirds 53 = .ok (.iload_n 2, 1) := by decide +kernel
theorem dX6_layFirstThirds_54 : decode cX6_layFirstThirds 54 = .ok (.invokevirtual 106, 3) := by decide +kernel
theorem dX6_layFirstThirds_57 : decode cX6_layFirstThirds 57 = .ok (.i2l, 1) := by decide +kernel
theorem dX6_layFirstThirds_58 : decode cX6_layFirstThirds 58 = .ok (.lastore, 1) := by decide +kernel
theorem dX6_layFirstThirds_59 : decode cX6_layFirstThirds 59 = .ok (.iinc 2 1, 3) := by decide +kernel
theorem dX6_layFirstThirds_62 : decode cX6_layFirstThirds 62 = .ok (.goto (-50), 3) := by decide +kernel
theorem dX6_layFirstThirds_65 : decode cX6_layFirstThirds 65 = .ok (.iinc 1 1, 3) := by decide +kernel
theorem dX6_layFirstThirds_68 : decode cX6_layFirstThirds 68 = .ok (.goto (-66), 3) := by decide +kernel
theorem dX6_layFirstThirds_71 : decode cX6_layFirstThirds 71 = .ok (.return_, 1) := by decide +kernel
set_option maxRecDepth 20000 in
theorem ggX6_firstThird_X6_level : GoodIn wsX6_firstThird wsX6_level := goodIn_r _ [7, 2, 1, 8, 9, 10, 11, 12, 13, 14, 15, 16, 17, 18, 19, 20] (by decide +kernel) (by decide +kernel)
set_option maxRecDepth 20000 in
theorem gX6_firstThird_X6_level : GoodIn wsX6_firstThird (wsV RX6 90 RX6 yX6_level wsX6_level) := goodIn_app (goodIn_of _ (by decide +kernel)) ggX6_firstThird_X6_level
theorem dX6_firstThird_0 : decode cX6_firstThird 0 = .ok (.iload_n 2, 1) := by decide +kernel
theorem dX6_firstThird_1 : decode cX6_firstThird 1 = .ok (.iload_n 1, 1) := by decide +kernel
theorem dX6_firstThird_2 : decode cX6_firstThird 2 = .ok (.iconst 1, 1) := by decide +kernel
theorem dX6_firstThird_3 : decode cX6_firstThird 3 = .ok (.isub, 1) := by decide +kernel
theorem dX6_firstThird_4 : decode cX6_firstThird 4 = .ok (.if_icmp .ne 10, 3) := by decide +kernel
theorem dX6_firstThird_7 : decode cX6_firstThird 7 = .ok (.aload_n 0, 1) := by decide +kernel
theorem dX6_firstThird_8 : decode cX6_firstThird 8 = .ok (.getfield 15, 3) := by decide +kernel
theorem dX6_firstThird_11 : decode cX6_firstThird 11 = .ok (.iload_n 1, 1) := by decide +kernel
theorem dX6_firstThird_12 : decode cX6_firstThird 12 = .ok (.iaload, 1) := by decide +kernel
theorem dX6_firstThird_13 : decode cX6_firstThird 13 = .ok (.ireturn, 1) := by decide +kernel
theorem dX6_firstThird_14 : decode cX6_firstThird 14 = .ok (.iload_n 2, 1) := by decide +kernel
theorem dX6_firstThird_15 : decode cX6_firstThird 15 = .ok (.iload_n 1, 1) := by decide +kernel
theorem dX6_firstThird_16 : decode cX6_firstThird 16 = .ok (.if_icmp .ne 9, 3) := by decide +kernel
theorem dX6_firstThird_19 : decode cX6_firstThird 19 = .ok (.aload_n 0, 1) := by decide +kernel
theorem dX6_firstThird_20 : decode cX6_firstThird 20 = .ok (.iload_n 1, 1) := by decide +kernel
theorem dX6_firstThird_21 : decode cX6_firstThird 21 = .ok (.invokevirtual 90, 3) := by decide +kernel
theorem dX6_firstThird_24 : decode cX6_firstThird 24 = .ok (.ireturn, 1) := by decide +kernel
theorem dX6_firstThird_25 : decode cX6_firstThird 25 = .ok (.iload_n 2, 1) := by decide +kernel
theorem dX6_firstThird_26 : decode cX6_firstThird 26 = .ok (.iload_n 1, 1) := by decide +kernel
theorem dX6_firstThird_27 : decode cX6_firstThird 27 = .ok (.iconst 1, 1) := by decide +kernel
theorem dX6_firstThird_28 : decode cX6_firstThird 28 = .ok (.iadd, 1) := by decide +kernel
theorem dX6_firstThird_29 : decode cX6_firstThird 29 = .ok (.if_icmp .ne 12, 3) := by decide +kernel
theorem dX6_firstThird_32 : decode cX6_firstThird 32 = .ok (.aload_n 0, 1) := by decide +kernel
theorem dX6_firstThird_33 : decode cX6_firstThird 33 = .ok (.getfield 9, 3) := by decide +kernel
theorem dX6_firstThird_36 : decode cX6_firstThird 36 = .ok (.iload_n 1, 1) := by decide +kernel
theorem dX6_firstThird_37 : decode cX6_firstThird 37 = .ok (.iaload, 1) := by decide +kernel
theorem dX6_firstThird_38 : decode cX6_firstThird 38 = .ok (.goto 4, 3) := by decide +kernel
theorem dX6_firstThird_41 : decode cX6_firstThird 41 = .ok (.iconst 0, 1) := by decide +kernel
theorem dX6_firstThird_42 : decode cX6_firstThird 42 = .ok (.ireturn, 1) := by decide +kernel
set_option maxRecDepth 20000 in
theorem ggX6_layOtherThirds_X6_thirdTimes : GoodIn wsX6_layOtherThirds wsX6_thirdTimes := goodIn_r _ [8, 3, 9, 1, 2, 10, 11, 12, 7, 13, 14, 15, 16, 17, 18, 19, 20, 21, 22, 23, 24, 25, 26, 27, 28, 29] (by decide +kernel) (by decide +kernel)
set_option maxRecDepth 20000 in
theorem gX6_layOtherThirds_X6_thirdTimes : GoodIn wsX6_layOtherThirds (wsV RX6 110 RX6 yX6_thirdTimes wsX6_thirdTimes) := goodIn_app (goodIn_of _ (by decide +kernel)) ggX6_layOtherThirds_X6_thirdTimes
set_option maxRecDepth 20000 in
theorem ggX6_layOtherThirds_X6_place : GoodIn wsX6_layOtherThirds wsX6_place := goodIn_r _ [16] (by decide +kernel) (by decide +kernel)
set_option maxRecDepth 20000 in
theorem gX6_layOtherThirds_X6_place : GoodIn wsX6_layOtherThirds (va_wsS RX6 102 yX6_place wsX6_place) := goodIn_app (goodIn_of _ (by decide +kernel)) ggX6_layOtherThirds_X6_place
theorem dX6_layOtherThirds_0 : decode cX6_layOtherThirds 0 = .ok (.iconst 1, 1) := by decide +kernel
theorem dX6_layOtherThirds_1 : decode cX6_layOtherThirds 1 = .ok (.istore_n 1, 1) := by decide +kernel
theorem dX6_layOtherThirds_2 : decode cX6_layOtherThirds 2 = .ok (.iload_n 1, 1) := by decide +kernel
theorem dX6_layOtherThirds_3 : decode cX6_layOtherThirds 3 = .ok (.aload_n 0, 1) := by decide +kernel
theorem dX6_layOtherThirds_4 : decode cX6_layOtherThirds 4 = .ok (.getfield 41, 3) := by decide +kernel
theorem dX6_layOtherThirds_7 : decode cX6_layOtherThirds 7 = .ok (.if_icmp .ge 112, 3) := by decide +kernel
theorem dX6_layOtherThirds_10 : decode cX6_layOtherThirds 10 = .ok (.iconst 0, 1) := by decide +kernel
theorem dX6_layOtherThirds_11 : decode cX6_layOtherThirds 11 = .ok (.istore_n 2, 1) := by decide +kernel
theorem dX6_layOtherThirds_12 : decode cX6_layOtherThirds 12 = .ok (.iload_n 2, 1) := by decide +kernel
theorem dX6_layOtherThirds_13 : decode cX6_layOtherThirds 13 = .ok (.aload_n 0, 1) := by decide +kernel
theorem dX6_layOtherThirds_14 : decode cX6_layOtherThirds 14 = .ok (.getfield 41, 3) := by decide +kernel
theorem dX6_layOtherThirds_17 : decode cX6_layOtherThirds 17 = .ok (.if_icmp .gt 96, 3) := by decide +kernel
theorem dX6_layOtherThirds_20 : decode cX6_layOtherThirds 20 = .ok (.iconst 0, 1) := by decide +kernel
theorem dX6_layOtherThirds_21 : decode cX6_layOtherThirds 21 = .ok (.istore_n 3, 1) := by decide +kernel
theorem dX6_layOtherThirds_22 : decode cX6_layOtherThirds 22 = .ok (.iload_n 3, 1) := by decide +kernel
theorem dX6_layOtherThirds_23 : decode cX6_layOtherThirds 23 = .ok (.aload_n 0, 1) := by decide +kernel
theorem dX6_layOtherThirds_24 : decode cX6_layOtherThirds 24 = .ok (.getfield 41, 3) := by decide +kernel
theorem dX6_layOtherThirds_27 : decode cX6_layOtherThirds 27 = .ok (.if_icmp .gt 80, 3) := by decide +kernel
theorem dX6_layOtherThirds_30 : decode cX6_layOtherThirds 30 = .ok (.aload_n 0, 1) := by decide +kernel
theorem dX6_layOtherThirds_31 : decode cX6_layOtherThirds 31 = .ok (.iload_n 2, 1) := by decide +kernel
theorem dX6_layOtherThirds_32 : decode cX6_layOtherThirds 32 = .ok (.iload_n 1, 1) := by decide +kernel
theorem dX6_layOtherThirds_33 : decode cX6_layOtherThirds 33 = .ok (.iload_n 3, 1) := by decide +kernel
theorem dX6_layOtherThirds_34 : decode cX6_layOtherThirds 34 = .ok (.invokevirtual 110, 3) := by decide +kernel
theorem dX6_layOtherThirds_37 : decode cX6_layOtherThirds 37 = .ok (.lstore 4, 2) := by decide +kernel
theorem dX6_layOtherThirds_39 : decode cX6_layOtherThirds 39 = .ok (.lload 4, 2) := by decide +kernel
theorem dX6_layOtherThirds_41 : decode cX6_layOtherThirds 41 = .ok (.lconst 0, 1) := by decide +kernel
theorem dX6_layOtherThirds_42 : decode cX6_layOtherThirds 42 = .ok (.lcmp, 1) := by decide +kernel
theorem dX6_layOtherThirds_43 : decode cX6_layOtherThirds 43 = .ok (.ifCond .lt 31, 3) := by decide +kernel
theorem dX6_layOtherThirds_46 : decode cX6_layOtherThirds 46 = .ok (.aload_n 0, 1) := by decide +kernel
theorem dX6_layOtherThirds_47 : decode cX6_layOtherThirds 47 = .ok (.getfield 15, 3) := by decide +kernel
theorem dX6_layOtherThirds_50 : decode cX6_layOtherThirds 50 = .ok (.iload_n 1, 1) := by decide +kernel
theorem dX6_layOtherThirds_51 : decode cX6_layOtherThirds 51 = .ok (.iconst 1, 1) := by decide +kernel
theorem dX6_layOtherThirds_52 : decode cX6_layOtherThirds 52 = .ok (.iadd, 1) := by decide +kernel
theorem dX6_layOtherThirds_53 : decode cX6_layOtherThirds 53 = .ok (.iaload, 1) := by decide +kernel
theorem dX6_layOtherThirds_54 : decode cX6_layOtherThirds 54 = .ok (.ifCond .eq 20, 3) := by decide +kernel
theorem dX6_layOtherThirds_57 : decode cX6_layOtherThirds 57 = .ok (.lload 4, 2) := by decide +kernel
theorem dX6_layOtherThirds_59 : decode cX6_layOtherThirds 59 = .ok (.aload_n 0, 1) := by decide +kernel
theorem dX6_layOtherThirds_60 : decode cX6_layOtherThirds 60 = .ok (.getfield 15, 3) := by decide +kernel
theorem dX6_layOtherThirds_63 : decode cX6_layOtherThirds 63 = .ok (.iload_n 1, 1) := by decide +kernel
theorem dX6_layOtherThirds_64 : decode cX6_layOtherThirds 64 = .ok (.iconst 1, 1) := by decide +kernel
theorem dX6_layOtherThirds_65 : decode cX6_layOtherThirds 65 = .ok (.iadd, 1) := by decide +kernel
theorem dX6_layOtherThirds_66 : decode cX6_layOtherThirds 66 = .ok (.iaload, 1) := by decide +kernel
theorem dX6_layOtherThirds_67 : decode cX6_layOtherThirds 67 = .ok (.i2l, 1) := by decide +kernel
theorem dX6_layOtherThirds_68 : decode cX6_layOtherThirds 68 = .ok (.lrem, 1) := by decide +kernel
theorem dX6_layOtherThirds_69 : decode cX6_layOtherThirds 69 = .ok (.lconst 0, 1) := by decide +kernel
theorem dX6_layOtherThirds_70 : decode cX6_layOtherThirds 70 = .ok (.lcmp, 1) := by decide +kernel
theorem dX6_layOtherThirds_71 : decode cX6_layOtherThirds 71 = .ok (.ifCond .eq 5, 3) := by decide +kernel
theorem dX6_layOtherThirds_74 : decode cX6_layOtherThirds 74 = .ok (.iconst 0, 1) := by decide +kernel
theorem dX6_layOtherThirds_75 : decode cX6_layOtherThirds 75 = .ok (.ireturn, 1) := by decide +kernel
theorem dX6_layOtherThirds_76 : decode cX6_layOtherThirds 76 = .ok (.aload_n 0, 1) := by decide +kernel
theorem dX6_layOtherThirds_77 : decode cX6_layOtherThirds 77 = .ok (.getfield 22, 3) := by decide +kernel
theorem dX6_layOtherThirds_80 : decode cX6_layOtherThirds 80 = .ok (.iload_n 2, 1) := by decide +kernel
theorem dX6_layOtherThirds_81 : decode cX6_layOtherThirds 81 = .ok (.iload_n 1, 1) := by decide +kernel
theorem dX6_layOtherThirds_82 : decode cX6_layOtherThirds 82 = .ok (.iconst 1, 1) := by decide +kernel
theorem dX6_layOtherThirds_83 : decode cX6_layOtherThirds 83 = .ok (.iadd, 1) := by decide +kernel
theorem dX6_layOtherThirds_84 : decode cX6_layOtherThirds 84 = .ok (.iload_n 3, 1) := by decide +kernel
theorem dX6_layOtherThirds_85 : decode cX6_layOtherThirds 85 = .ok (.invokestatic 102, 3) := by decide +kernel
theorem dX6_layOtherThirds_88 : decode cX6_layOtherThirds 88 = .ok (.lload 4, 2) := by decide +kernel
theorem dX6_layOtherThirds_90 : decode cX6_layOtherThirds 90 = .ok (.aload_n 0, 1) := by decide +kernel
theorem dX6_layOtherThirds_91 : decode cX6_layOtherThirds 91 = .ok (.getfield 15, 3) := by decide +kernel
theorem dX6_layOtherThirds_94 : decode cX6_layOtherThirds 94 = .ok (.iload_n 1, 1) := by decide +kernel
theorem dX6_layOtherThirds_95 : decode cX6_layOtherThirds 95 = .ok (.iconst 1, 1) := by decide +kernel
theorem dX6_layOtherThirds_96 : decode cX6_layOtherThirds 96 = .ok (.iadd, 1) := by decide +kernel
theorem dX6_layOtherThirds_97 : decode cX6_layOtherThirds 97 = .ok (.iaload, 1) := by decide +kernel
theorem dX6_layOtherThirds_98 : decode cX6_layOtherThirds 98 = .ok (.i2l, 1) := by decide +kernel
theorem dX6_layOtherThirds_99 : decode cX6_layOtherThirds 99 = .ok (.ldiv, 1) := by decide +kernel
theorem dX6_layOtherThirds_100 : decode cX6_layOtherThirds 100 = .ok (.lastore, 1) := by decide +kernel
theorem dX6_layOtherThirds_101 : decode cX6_layOtherThirds 101 = .ok (.iinc 3 1, 3) := by decide +kernel
theorem dX6_layOtherThirds_104 : decode cX6_layOtherThirds 104 = .ok (.goto (-82), 3) := by decide +kernel
theorem dX6_layOtherThirds_107 : decode cX6_layOtherThirds 107 = .ok (.iinc 2 1, 3) := by decide +kernel
theorem dX6_layOtherThirds_110 : decode cX6_layOtherThirds 110 = .ok (.goto (-98), 3) := by decide +kernel
theorem dX6_layOtherThirds_113 : decode cX6_layOtherThirds 113 = .ok (.iinc 1 1, 3) := by decide +kernel
theorem dX6_layOtherThirds_116 : decode cX6_layOtherThirds 116 = .ok (.goto (-114), 3) := by decide +kernel
theorem dX6_layOtherThirds_119 : decode cX6_layOtherThirds 119 = .ok (.iconst 1, 1) := by decide +kernel
theorem dX6_layOtherThirds_120 : decode cX6_layOtherThirds 120 = .ok (.ireturn, 1) := by decide +kernel
set_option maxRecDepth 20000 in
theorem ggX6_thirdTimes_X6_level : GoodIn wsX6_thirdTimes wsX6_level := goodIn_r _ [9, 2, 4, 13, 14, 15, 16, 17, 18, 19, 20, 21, 22, 23, 24, 25] (by decide +kernel) (by decide +kernel)
set_option maxRecDepth 20000 in
theorem gX6_thirdTimes_X6_level : GoodIn wsX6_thirdTimes (wsV RX6 90 RX6 yX6_level wsX6_level) := goodIn_app (goodIn_of _ (by decide +kernel)) ggX6_thirdTimes_X6_level
set_option maxRecDepth 20000 in
theorem ggX6_thirdTimes_X6_place : GoodIn wsX6_thirdTimes wsX6_place := goodIn_r _ [12] (by decide +kernel) (by decide +kernel)
set_option maxRecDepth 20000 in
theorem gX6_thirdTimes_X6_place : GoodIn wsX6_thirdTimes (va_wsS RX6 102 yX6_place wsX6_place) := goodIn_app (goodIn_of _ (by decide +kernel)) ggX6_thirdTimes_X6_place
theorem dX6_thirdTimes_0 : decode cX6_thirdTimes 0 = .ok (.aload_n 0, 1) := by decide +kernel
theorem dX6_thirdTimes_1 : decode cX6_thirdTimes 1 = .ok (.iload_n 3, 1) := by decide +kernel
theorem dX6_thirdTimes_2 : decode cX6_thirdTimes 2 = .ok (.invokevirtual 90, 3) := by decide +kernel
theorem dX6_thirdTimes_5 : decode cX6_thirdTimes 5 = .ok (.aload_n 0, 1) := by decide +kernel
theorem dX6_thirdTimes_6 : decode cX6_thirdTimes 6 = .ok (.iload_n 2, 1) := by decide +kernel
theorem dX6_thirdTimes_7 : decode cX6_thirdTimes 7 = .ok (.invokevirtual 90, 3) := by decide +kernel
theorem dX6_thirdTimes_10 : decode cX6_thirdTimes 10 = .ok (.isub, 1) := by decide +kernel
theorem dX6_thirdTimes_11 : decode cX6_thirdTimes 11 = .ok (.i2l, 1) := by decide +kernel
theorem dX6_thirdTimes_12 : decode cX6_thirdTimes 12 = .ok (.aload_n 0, 1) := by decide +kernel
theorem dX6_thirdTimes_13 : decode cX6_thirdTimes 13 = .ok (.getfield 22, 3) := by decide +kernel
theorem dX6_thirdTimes_16 : decode cX6_thirdTimes 16 = .ok (.iload_n 1, 1) := by decide +kernel
theorem dX6_thirdTimes_17 : decode cX6_thirdTimes 17 = .ok (.iload_n 2, 1) := by decide +kernel
theorem dX6_thirdTimes_18 : decode cX6_thirdTimes 18 = .ok (.iload_n 3, 1) := by decide +kernel
theorem dX6_thirdTimes_19 : decode cX6_thirdTimes 19 = .ok (.invokestatic 102, 3) := by decide +kernel
theorem dX6_thirdTimes_22 : decode cX6_thirdTimes 22 = .ok (.laload, 1) := by decide +kernel
theorem dX6_thirdTimes_23 : decode cX6_thirdTimes 23 = .ok (.lmul, 1) := by decide +kernel
theorem dX6_thirdTimes_24 : decode cX6_thirdTimes 24 = .ok (.aload_n 0, 1) := by decide +kernel
theorem dX6_thirdTimes_25 : decode cX6_thirdTimes 25 = .ok (.getfield 9, 3) := by decide +kernel
theorem dX6_thirdTimes_28 : decode cX6_thirdTimes 28 = .ok (.iload_n 2, 1) := by decide +kernel
theorem dX6_thirdTimes_29 : decode cX6_thirdTimes 29 = .ok (.iconst 1, 1) := by decide +kernel
theorem dX6_thirdTimes_30 : decode cX6_thirdTimes 30 = .ok (.isub, 1) := by decide +kernel
theorem dX6_thirdTimes_31 : decode cX6_thirdTimes 31 = .ok (.iaload, 1) := by decide +kernel
theorem dX6_thirdTimes_32 : decode cX6_thirdTimes 32 = .ok (.i2l, 1) := by decide +kernel
theorem dX6_thirdTimes_33 : decode cX6_thirdTimes 33 = .ok (.aload_n 0, 1) := by decide +kernel
theorem dX6_thirdTimes_34 : decode cX6_thirdTimes 34 = .ok (.getfield 22, 3) := by decide +kernel
theorem dX6_thirdTimes_37 : decode cX6_thirdTimes 37 = .ok (.iload_n 1, 1) := by decide +kernel
theorem dX6_thirdTimes_38 : decode cX6_thirdTimes 38 = .ok (.iload_n 2, 1) := by decide +kernel
theorem dX6_thirdTimes_39 : decode cX6_thirdTimes 39 = .ok (.iconst 1, 1) := by decide +kernel
theorem dX6_thirdTimes_40 : decode cX6_thirdTimes 40 = .ok (.isub, 1) := by decide +kernel
theorem dX6_thirdTimes_41 : decode cX6_thirdTimes 41 = .ok (.iload_n 3, 1) := by decide +kernel
theorem dX6_thirdTimes_42 : decode cX6_thirdTimes 42 = .ok (.invokestatic 102, 3) := by decide +kernel
theorem dX6_thirdTimes_45 : decode cX6_thirdTimes 45 = .ok (.laload, 1) := by decide +kernel
theorem dX6_thirdTimes_46 : decode cX6_thirdTimes 46 = .ok (.lmul, 1) := by decide +kernel
theorem dX6_thirdTimes_47 : decode cX6_thirdTimes 47 = .ok (.lsub, 1) := by decide +kernel
theorem dX6_thirdTimes_48 : decode cX6_thirdTimes 48 = .ok (.lstore 4, 2) := by decide +kernel
theorem dX6_thirdTimes_50 : decode cX6_thirdTimes 50 = .ok (.iload_n 3, 1) := by decide +kernel
theorem dX6_thirdTimes_51 : decode cX6_thirdTimes 51 = .ok (.ifCond .le 31, 3) := by decide +kernel
theorem dX6_thirdTimes_54 : decode cX6_thirdTimes 54 = .ok (.lload 4, 2) := by decide +kernel
theorem dX6_thirdTimes_56 : decode cX6_thirdTimes 56 = .ok (.aload_n 0, 1) := by decide +kernel
theorem dX6_thirdTimes_57 : decode cX6_thirdTimes 57 = .ok (.getfield 9, 3) := by decide +kernel
theorem dX6_thirdTimes_60 : decode cX6_thirdTimes 60 = .ok (.iload_n 3, 1) := by decide +kernel
theorem dX6_thirdTimes_61 : decode cX6_thirdTimes 61 = .ok (.iconst 1, 1) := by decide +kernel
theorem dX6_thirdTimes_62 : decode cX6_thirdTimes 62 = .ok (.isub, 1) := by decide +kernel
theorem dX6_thirdTimes_63 : decode cX6_thirdTimes 63 = .ok (.iaload, 1) := by decide +kernel
theorem dX6_thirdTimes_64 : decode cX6_thirdTimes 64 = .ok (.i2l, 1) := by decide +kernel
theorem dX6_thirdTimes_65 : decode cX6_thirdTimes 65 = .ok (.aload_n 0, 1) := by decide +kernel
theorem dX6_thirdTimes_66 : decode cX6_thirdTimes 66 = .ok (.getfield 22, 3) := by decide +kernel
theorem dX6_thirdTimes_69 : decode cX6_thirdTimes 69 = .ok (.iload_n 1, 1) := by decide +kernel
theorem dX6_thirdTimes_70 : decode cX6_thirdTimes 70 = .ok (.iload_n 2, 1) := by decide +kernel
theorem dX6_thirdTimes_71 : decode cX6_thirdTimes 71 = .ok (.iload_n 3, 1) := by decide +kernel
theorem dX6_thirdTimes_72 : decode cX6_thirdTimes 72 = .ok (.iconst 1, 1) := by decide +kernel
theorem dX6_thirdTimes_73 : decode cX6_thirdTimes 73 = .ok (.isub, 1) := by decide +kernel
theorem dX6_thirdTimes_74 : decode cX6_thirdTimes 74 = .ok (.invokestatic 102, 3) := by decide +kernel
theorem dX6_thirdTimes_77 : decode cX6_thirdTimes 77 = .ok (.laload, 1) := by decide +kernel
theorem dX6_thirdTimes_78 : decode cX6_thirdTimes 78 = .ok (.lmul, 1) := by decide +kernel
theorem dX6_thirdTimes_79 : decode cX6_thirdTimes 79 = .ok (.ladd, 1) := by decide +kernel
theorem dX6_thirdTimes_80 : decode cX6_thirdTimes 80 = .ok (.lstore 4, 2) := by decide +kernel
theorem dX6_thirdTimes_82 : decode cX6_thirdTimes 82 = .ok (.iload_n 3, 1) := by decide +kernel
theorem dX6_thirdTimes_83 : decode cX6_thirdTimes 83 = .ok (.aload_n 0, 1) := by decide +kernel
theorem dX6_thirdTimes_84 : decode cX6_thirdTimes 84 = .ok (.getfield 41, 3) := by decide +kernel
theorem dX6_thirdTimes_87 : decode cX6_thirdTimes 87 = .ok (.if_icmp .ge 31, 3) := by decide +kernel
theorem dX6_thirdTimes_90 : decode cX6_thirdTimes 90 = .ok (.lload 4, 2) := by decide +kernel
theorem dX6_thirdTimes_92 : decode cX6_thirdTimes 92 = .ok (.aload_n 0, 1) := by decide +kernel
theorem dX6_thirdTimes_93 : decode cX6_thirdTimes 93 = .ok (.getfield 15, 3) := by decide +kernel
theorem dX6_thirdTimes_96 : decode cX6_thirdTimes 96 = .ok (.iload_n 3, 1) := by decide +kernel
theorem dX6_thirdTimes_97 : decode cX6_thirdTimes 97 = .ok (.iconst 1, 1) := by decide +kernel
theorem dX6_thirdTimes_98 : decode cX6_thirdTimes 98 = .ok (.iadd, 1) := by decide +kernel
theorem dX6_thirdTimes_99 : decode cX6_thirdTimes 99 = .ok (.iaload, 1) := by decide +kernel
theorem dX6_thirdTimes_100 : decode cX6_thirdTimes 100 = .ok (.i2l, 1) := by decide +kernel
theorem dX6_thirdTimes_101 : decode cX6_thirdTimes 101 = .ok (.aload_n 0, 1) := by decide +kernel
theorem dX6_thirdTimes_102 : decode cX6_thirdTimes 102 = .ok (.getfield 22, 3) := by decide +kernel
theorem dX6_thirdTimes_105 : decode cX6_thirdTimes 105 = .ok (.iload_n 1, 1) := by decide +kernel
theorem dX6_thirdTimes_106 : decode cX6_thirdTimes 106 = .ok (.iload_n 2, 1) := by decide +kernel
theorem dX6_thirdTimes_107 : decode cX6_thirdTimes 107 = .ok (.iload_n 3, 1) := by decide +kernel
theorem dX6_thirdTimes_108 : decode cX6_thirdTimes 108 = .ok (.iconst 1, 1) := by decide +kernel
theorem dX6_thirdTimes_109 : decode cX6_thirdTimes 109 = .ok (.iadd, 1) := by decide +kernel
theorem dX6_thirdTimes_110 : decode cX6_thirdTimes 110 = .ok (.invokestatic 102, 3) := by decide +kernel
theorem dX6_thirdTimes_113 : decode cX6_thirdTimes 113 = .ok (.laload, 1) := by decide +kernel
theorem dX6_thirdTimes_114 : decode cX6_thirdTimes 114 = .ok (.lmul, 1) := by decide +kernel
theorem dX6_thirdTimes_115 : decode cX6_thirdTimes 115 = .ok (.ladd, 1) := by decide +kernel
theorem dX6_thirdTimes_116 : decode cX6_thirdTimes 116 = .ok (.lstore 4, 2) := by decide +kernel
theorem dX6_thirdTimes_118 : decode cX6_thirdTimes 118 = .ok (.lload 4, 2) := by decide +kernel
theorem dX6_thirdTimes_120 : decode cX6_thirdTimes 120 = .ok (.lreturn, 1) := by decide +kernel
set_option maxRecDepth 20000 in
theorem ggX6_findRoots_X6_isRoot : GoodIn wsX6_findRoots wsX6_isRoot := goodIn_r _ [9, 10, 11, 12, 2, 13, 14, 15, 8, 16, 22, 23, 24, 25, 26, 27, 28, 29, 30, 31, 32, 33, 34] (by decide +kernel) (by decide +kernel)
set_option maxRecDepth 20000 in
theorem gX6_findRoots_X6_isRoot : GoodIn wsX6_findRoots (wsV RX6 117 RX6 yX6_isRoot wsX6_isRoot) := goodIn_app (goodIn_of _ (by decide +kernel)) ggX6_findRoots_X6_isRoot
set_option maxRecDepth 20000 in
theorem ggX6_findRoots_X6_timesOfScaled : GoodIn wsX6_findRoots wsX6_timesOfScaled := goodIn_r _ [20, 11, 2, 12, 10, 21, 22, 23, 24, 25, 26, 27, 28, 29, 30, 31, 32, 33, 34] (by decide +kernel) (by decide +kernel)
set_option maxRecDepth 20000 in
theorem gX6_findRoots_X6_timesOfScaled : GoodIn wsX6_findRoots (wsV RX6 121 RX6 yX6_timesOfScaled wsX6_timesOfScaled) := goodIn_app (goodIn_of _ (by decide +kernel)) ggX6_findRoots_X6_timesOfScaled
theorem dX6_findRoots_0 : decode cX6_findRoots 0 = .ok (.aload_n 0, 1) := by decide +kernel
theorem dX6_findRoots_1 : decode cX6_findRoots 1 = .ok (.iconst 0, 1) := by decide +kernel
theorem dX6_findRoots_2 : decode cX6_findRoots 2 = .ok (.putfield 114, 3) := by decide +kernel
theorem dX6_findRoots_5 : decode cX6_findRoots 5 = .ok (.iconst 1, 1) := by decide +kernel
theorem dX6_findRoots_6 : decode cX6_findRoots 6 = .ok (.istore_n 1, 1) := by decide +kernel
theorem dX6_findRoots_7 : decode cX6_findRoots 7 = .ok (.aload_n 0, 1) := by decide +kernel
theorem dX6_findRoots_8 : decode cX6_findRoots 8 = .ok (.getfield 9, 3) := by decide +kernel
theorem dX6_findRoots_11 : decode cX6_findRoots 11 = .ok (.iconst 0, 1) := by decide +kernel
theorem dX6_findRoots_12 : decode cX6_findRoots 12 = .ok (.iaload, 1) := by decide +kernel
theorem dX6_findRoots_13 : decode cX6_findRoots 13 = .ok (.istore_n 2, 1) := by decide +kernel
theorem dX6_findRoots_14 : decode cX6_findRoots 14 = .ok (.iload_n 2, 1) := by decide +kernel
theorem dX6_findRoots_15 : decode cX6_findRoots 15 = .ok (.aload_n 0, 1) := by decide +kernel
theorem dX6_findRoots_16 : decode cX6_findRoots 16 = .ok (.getfield 9, 3) := by decide +kernel
theorem dX6_findRoots_19 : decode cX6_findRoots 19 = .ok (.iconst 0, 1) := by decide +kernel
theorem dX6_findRoots_20 : decode cX6_findRoots 20 = .ok (.iaload, 1) := by decide +kernel
theorem dX6_findRoots_21 : decode cX6_findRoots 21 = .ok (.ineg, 1) := by decide +kernel
theorem dX6_findRoots_22 : decode cX6_findRoots 22 = .ok (.if_icmp .lt 81, 3) := by decide +kernel
theorem dX6_findRoots_25 : decode cX6_findRoots 25 = .ok (.aload_n 0, 1) := by decide +kernel
theorem dX6_findRoots_26 : decode cX6_findRoots 26 = .ok (.iload_n 2, 1) := by decide +kernel
theorem dX6_findRoots_27 : decode cX6_findRoots 27 = .ok (.invokevirtual 117, 3) := by decide +kernel
theorem dX6_findRoots_30 : decode cX6_findRoots 30 = .ok (.ifCond .eq 67, 3) := by decide +kernel
theorem dX6_findRoots_33 : decode cX6_findRoots 33 = .ok (.aload_n 0, 1) := by decide +kernel
theorem dX6_findRoots_34 : decode cX6_findRoots 34 = .ok (.getfield 114, 3) := by decide +kernel
theorem dX6_findRoots_37 : decode cX6_findRoots 37 = .ok (.bipush 6, 2) := by decide +kernel
theorem dX6_findRoots_39 : decode cX6_findRoots 39 = .ok (.if_icmp .ge 58, 3) := by decide +kernel
theorem dX6_findRoots_42 : decode cX6_findRoots 42 = .ok (.aload_n 0, 1) := by decide +kernel
theorem dX6_findRoots_43 : decode cX6_findRoots 43 = .ok (.getfield 31, 3) := by decide +kernel
theorem dX6_findRoots_46 : decode cX6_findRoots 46 = .ok (.aload_n 0, 1) := by decide +kernel
theorem dX6_findRoots_47 : decode cX6_findRoots 47 = .ok (.getfield 114, 3) := by decide +kernel
theorem dX6_findRoots_50 : decode cX6_findRoots 50 = .ok (.iload_n 2, 1) := by decide +kernel
theorem dX6_findRoots_51 : decode cX6_findRoots 51 = .ok (.iastore, 1) := by decide +kernel
theorem dX6_findRoots_52 : decode cX6_findRoots 52 = .ok (.aload_n 0, 1) := by decide +kernel
theorem dX6_findRoots_53 : decode cX6_findRoots 53 = .ok (.getfield 34, 3) := by decide +kernel
theorem dX6_findRoots_56 : decode cX6_findRoots 56 = .ok (.aload_n 0, 1) := by decide +kernel
theorem dX6_findRoots_57 : decode cX6_findRoots 57 = .ok (.getfield 114, 3) := by decide +kernel
theorem dX6_findRoots_60 : decode cX6_findRoots 60 = .ok (.aload_n 0, 1) := by decide +kernel
theorem dX6_findRoots_61 : decode cX6_findRoots 61 = .ok (.invokevirtual 121, 3) := by decide +kernel
theorem dX6_findRoots_64 : decode cX6_findRoots 64 = .ok (.iastore, 1) := by decide +kernel
theorem dX6_findRoots_65 : decode cX6_findRoots 65 = .ok (.iload_n 1, 1) := by decide +kernel
theorem dX6_findRoots_66 : decode cX6_findRoots 66 = .ok (.ifCond .eq 19, 3) := by decide +kernel
theorem dX6_findRoots_69 : decode cX6_findRoots 69 = .ok (.aload_n 0, 1) := by decide +kernel
theorem dX6_findRoots_70 : decode cX6_findRoots 70 = .ok (.getfield 34, 3) := by decide +kernel
theorem dX6_findRoots_73 : decode cX6_findRoots 73 = .ok (.aload_n 0, 1) := by decide +kernel
theorem dX6_findRoots_74 : decode cX6_findRoots 74 = .ok (.getfield 114, 3) := by decide +kernel
theorem dX6_findRoots_77 : decode cX6_findRoots 77 = .ok (.iaload, 1) := by decide +kernel
theorem dX6_findRoots_78 : decode cX6_findRoots 78 = .ok (.ifCond .lt 7, 3) := by decide +kernel
theorem dX6_findRoots_81 : decode cX6_findRoots 81 = .ok (.iconst 1, 1) := by decide +kernel
theorem dX6_findRoots_82 : decode cX6_findRoots 82 = .ok (.goto 4, 3) := by decide +kernel
theorem dX6_findRoots_85 : decode cX6_findRoots 85 = .ok (.iconst 0, 1) := by decide +kernel
theorem dX6_findRoots_86 : decode cX6_findRoots 86 = .ok (.istore_n 1, 1) := by decide +kernel
theorem dX6_findRoots_87 : decode cX6_findRoots 87 = .ok (.aload_n 0, 1) := by decide +kernel
theorem dX6_findRoots_88 : decode cX6_findRoots 88 = .ok (.dup, 1) := by decide +kernel
theorem dX6_findRoots_89 : decode cX6_findRoots 89 = .ok (.getfield 114, 3) := by decide +kernel
theorem dX6_findRoots_92 : decode cX6_findRoots 92 = .ok (.iconst 1, 1) := by decide +kernel
theorem dX6_findRoots_93 : decode cX6_findRoots 93 = .ok (.iadd, 1) := by decide +kernel
theorem dX6_findRoots_94 : decode cX6_findRoots 94 = .ok (.putfield 114, 3) := by decide +kernel
theorem dX6_findRoots_97 : decode cX6_findRoots 97 = .ok (.iinc 2 (-1), 3) := by decide +kernel
theorem dX6_findRoots_100 : decode cX6_findRoots 100 = .ok (.goto (-86), 3) := by decide +kernel
theorem dX6_findRoots_103 : decode cX6_findRoots 103 = .ok (.iload_n 1, 1) := by decide +kernel
theorem dX6_findRoots_104 : decode cX6_findRoots 104 = .ok (.ireturn, 1) := by decide +kernel
set_option maxRecDepth 20000 in
theorem ggX6_isRoot_X6_level : GoodIn wsX6_isRoot wsX6_level := goodIn_r _ [9, 4, 3, 10, 11, 12, 13, 14, 15, 16, 17, 18, 19, 20, 21, 22] (by decide +kernel) (by decide +kernel)
set_option maxRecDepth 20000 in
theorem gX6_isRoot_X6_level : GoodIn wsX6_isRoot (wsV RX6 90 RX6 yX6_level wsX6_level) := goodIn_app (goodIn_of _ (by decide +kernel)) ggX6_isRoot_X6_level
theorem dX6_isRoot_0 : decode cX6_isRoot 0 = .ok (.aload_n 0, 1) := by decide +kernel
theorem dX6_isRoot_1 : decode cX6_isRoot 1 = .ok (.getfield 25, 3) := by decide +kernel
theorem dX6_isRoot_4 : decode cX6_isRoot 4 = .ok (.iconst 0, 1) := by decide +kernel
theorem dX6_isRoot_5 : decode cX6_isRoot 5 = .ok (.lconst 1, 1) := by decide +kernel
theorem dX6_isRoot_6 : decode cX6_isRoot 6 = .ok (.lastore, 1) := by decide +kernel
theorem dX6_isRoot_7 : decode cX6_isRoot 7 = .ok (.aload_n 0, 1) := by decide +kernel
theorem dX6_isRoot_8 : decode cX6_isRoot 8 = .ok (.getfield 25, 3) := by decide +kernel
theorem dX6_isRoot_11 : decode cX6_isRoot 11 = .ok (.iconst 1, 1) := by decide +kernel
theorem dX6_isRoot_12 : decode cX6_isRoot 12 = .ok (.iload_n 1, 1) := by decide +kernel
theorem dX6_isRoot_13 : decode cX6_isRoot 13 = .ok (.i2l, 1) := by decide +kernel
theorem dX6_isRoot_14 : decode cX6_isRoot 14 = .ok (.lastore, 1) := by decide +kernel
theorem dX6_isRoot_15 : decode cX6_isRoot 15 = .ok (.iconst 1, 1) := by decide +kernel
theorem dX6_isRoot_16 : decode cX6_isRoot 16 = .ok (.istore_n 2, 1) := by decide +kernel
theorem dX6_isRoot_17 : decode cX6_isRoot 17 = .ok (.iload_n 2, 1) := by decide +kernel
theorem dX6_isRoot_18 : decode cX6_isRoot 18 = .ok (.aload_n 0, 1) := by decide +kernel
theorem dX6_isRoot_19 : decode cX6_isRoot 19 = .ok (.getfield 41, 3) := by decide +kernel
theorem dX6_isRoot_22 : decode cX6_isRoot 22 = .ok (.if_icmp .gt 59, 3) := by decide +kernel
theorem dX6_isRoot_25 : decode cX6_isRoot 25 = .ok (.aload_n 0, 1) := by decide +kernel
theorem dX6_isRoot_26 : decode cX6_isRoot 26 = .ok (.getfield 25, 3) := by decide +kernel
theorem dX6_isRoot_29 : decode cX6_isRoot 29 = .ok (.iload_n 2, 1) := by decide +kernel
theorem dX6_isRoot_30 : decode cX6_isRoot 30 = .ok (.iconst 1, 1) := by decide +kernel
theorem dX6_isRoot_31 : decode cX6_isRoot 31 = .ok (.iadd, 1) := by decide +kernel
theorem dX6_isRoot_32 : decode cX6_isRoot 32 = .ok (.iload_n 1, 1) := by decide +kernel
theorem dX6_isRoot_33 : decode cX6_isRoot 33 = .ok (.aload_n 0, 1) := by decide +kernel
theorem dX6_isRoot_34 : decode cX6_isRoot 34 = .ok (.iload_n 2, 1) := by decide +kernel
theorem dX6_isRoot_35 : decode cX6_isRoot 35 = .ok (.invokevirtual 90, 3) := by decide +kernel
theorem dX6_isRoot_38 : decode cX6_isRoot 38 = .ok (.isub, 1) := by decide +kernel
theorem dX6_isRoot_39 : decode cX6_isRoot 39 = .ok (.i2l, 1) := by decide +kernel
theorem dX6_isRoot_40 : decode cX6_isRoot 40 = .ok (.aload_n 0, 1) := by decide +kernel
theorem dX6_isRoot_41 : decode cX6_isRoot 41 = .ok (.getfield 25, 3) := by decide +kernel
theorem dX6_isRoot_44 : decode cX6_isRoot 44 = .ok (.iload_n 2, 1) := by decide +kernel
theorem dX6_isRoot_45 : decode cX6_isRoot 45 = .ok (.laload, 1) := by decide +kernel
theorem dX6_isRoot_46 : decode cX6_isRoot 46 = .ok (.lmul, 1) := by decide +kernel
theorem dX6_isRoot_47 : decode cX6_isRoot 47 = .ok (.aload_n 0, 1) := by decide +kernel
theorem dX6_isRoot_48 : decode cX6_isRoot 48 = .ok (.getfield 15, 3) := by decide +kernel
theorem dX6_isRoot_51 : decode cX6_isRoot 51 = .ok (.iload_n 2, 1) := by decide +kernel
theorem dX6_isRoot_52 : decode cX6_isRoot 52 = .ok (.iaload, 1) := by decide +kernel
theorem dX6_isRoot_53 : decode cX6_isRoot 53 = .ok (.i2l, 1) := by decide +kernel
theorem dX6_isRoot_54 : decode cX6_isRoot 54 = .ok (.aload_n 0, 1) := by decide +kernel
theorem dX6_isRoot_55 : decode cX6_isRoot 55 = .ok (.getfield 9, 3) := by decide +kernel
theorem dX6_isRoot_58 : decode cX6_isRoot 58 = .ok (.iload_n 2, 1) := by decide +kernel
theorem dX6_isRoot_59 : decode cX6_isRoot 59 = .ok (.iconst 1, 1) := by decide +kernel
theorem dX6_isRoot_60 : decode cX6_isRoot 60 = .ok (.isub, 1) := by decide +kernel
theorem dX6_isRoot_61 : decode cX6_isRoot 61 = .ok (.iaload, 1) := by decide +kernel
theorem dX6_isRoot_62 : decode cX6_isRoot 62 = .ok (.i2l, 1) := by decide +kernel
theorem dX6_isRoot_63 : decode cX6_isRoot 63 = .ok (.lmul, 1) := by decide +kernel
theorem dX6_isRoot_64 : decode cX6_isRoot 64 = .ok (.aload_n 0, 1) := by decide +kernel
theorem dX6_isRoot_65 : decode cX6_isRoot 65 = .ok (.getfield 25, 3) := by decide +kernel
theorem dX6_isRoot_68 : decode cX6_isRoot 68 = .ok (.iload_n 2, 1) := by decide +kernel
theorem dX6_isRoot_69 : decode cX6_isRoot 69 = .ok (.iconst 1, 1) := by decide +kernel
theorem dX6_isRoot_70 : decode cX6_isRoot 70 = .ok (.isub, 1) := by decide +kernel
theorem dX6_isRoot_71 : decode cX6_isRoot 71 = .ok (.laload, 1) := by decide +kernel
theorem dX6_isRoot_72 : decode cX6_isRoot 72 = .ok (.lmul, 1) := by decide +kernel
theorem dX6_isRoot_73 : decode cX6_isRoot 73 = .ok (.lsub, 1) := by decide +kernel
theorem dX6_isRoot_74 : decode cX6_isRoot 74 = .ok (.lastore, 1) := by decide +kernel
theorem dX6_isRoot_75 : decode cX6_isRoot 75 = .ok (.iinc 2 1, 3) := by decide +kernel
theorem dX6_isRoot_78 : decode cX6_isRoot 78 = .ok (.goto (-61), 3) := by decide +kernel
theorem dX6_isRoot_81 : decode cX6_isRoot 81 = .ok (.aload_n 0, 1) := by decide +kernel
theorem dX6_isRoot_82 : decode cX6_isRoot 82 = .ok (.getfield 25, 3) := by decide +kernel
theorem dX6_isRoot_85 : decode cX6_isRoot 85 = .ok (.aload_n 0, 1) := by decide +kernel
theorem dX6_isRoot_86 : decode cX6_isRoot 86 = .ok (.getfield 41, 3) := by decide +kernel
theorem dX6_isRoot_89 : decode cX6_isRoot 89 = .ok (.iconst 1, 1) := by decide +kernel
theorem dX6_isRoot_90 : decode cX6_isRoot 90 = .ok (.iadd, 1) := by decide +kernel
theorem dX6_isRoot_91 : decode cX6_isRoot 91 = .ok (.laload, 1) := by decide +kernel
theorem dX6_isRoot_92 : decode cX6_isRoot 92 = .ok (.lconst 0, 1) := by decide +kernel
theorem dX6_isRoot_93 : decode cX6_isRoot 93 = .ok (.lcmp, 1) := by decide +kernel
theorem dX6_isRoot_94 : decode cX6_isRoot 94 = .ok (.ifCond .ne 7, 3) := by decide +kernel
theorem dX6_isRoot_97 : decode cX6_isRoot 97 = .ok (.iconst 1, 1) := by decide +kernel
theorem dX6_isRoot_98 : decode cX6_isRoot 98 = .ok (.goto 4, 3) := by decide +kernel
theorem dX6_isRoot_101 : decode cX6_isRoot 101 = .ok (.iconst 0, 1) := by decide +kernel
theorem dX6_isRoot_102 : decode cX6_isRoot 102 = .ok (.ireturn, 1) := by decide +kernel
theorem dX6_timesOfScaled_0 : decode cX6_timesOfScaled 0 = .ok (.lconst 1, 1) := by decide +kernel
theorem dX6_timesOfScaled_1 : decode cX6_timesOfScaled 1 = .ok (.lstore_n 1, 1) := by decide +kernel
theorem dX6_timesOfScaled_2 : decode cX6_timesOfScaled 2 = .ok (.iconst 1, 1) := by decide +kernel
theorem dX6_timesOfScaled_3 : decode cX6_timesOfScaled 3 = .ok (.istore_n 3, 1) := by decide +kernel
theorem dX6_timesOfScaled_4 : decode cX6_timesOfScaled 4 = .ok (.iload_n 3, 1) := by decide +kernel
theorem dX6_timesOfScaled_5 : decode cX6_timesOfScaled 5 = .ok (.aload_n 0, 1) := by decide +kernel
theorem dX6_timesOfScaled_6 : decode cX6_timesOfScaled 6 = .ok (.getfield 41, 3) := by decide +kernel
theorem dX6_timesOfScaled_9 : decode cX6_timesOfScaled 9 = .ok (.if_icmp .gt 28, 3) := by decide +kernel
theorem dX6_timesOfScaled_12 : decode cX6_timesOfScaled 12 = .ok (.lload_n 1, 1) := by decide +kernel
theorem dX6_timesOfScaled_13 : decode cX6_timesOfScaled 13 = .ok (.aload_n 0, 1) := by decide +kernel
theorem dX6_timesOfScaled_14 : decode cX6_timesOfScaled 14 = .ok (.getfield 9, 3) := by decide +kernel
theorem dX6_timesOfScaled_17 : decode cX6_timesOfScaled 17 = .ok (.iload_n 3, 1) := by decide +kernel
theorem dX6_timesOfScaled_18 : decode cX6_timesOfScaled 18 = .ok (.iconst 1, 1) := by decide +kernel
theorem dX6_timesOfScaled_19 : decode cX6_timesOfScaled 19 = .ok (.isub, 1) := by decide +kernel
theorem dX6_timesOfScaled_20 : decode cX6_timesOfScaled 20 = .ok (.iaload, 1) := by decide +kernel
theorem dX6_timesOfScaled_21 : decode cX6_timesOfScaled 21 = .ok (.aload_n 0, 1) := by decide +kernel
theorem dX6_timesOfScaled_22 : decode cX6_timesOfScaled 22 = .ok (.getfield 15, 3) := by decide +kernel
theorem dX6_timesOfScaled_25 : decode cX6_timesOfScaled 25 = .ok (.iload_n 3, 1) := by decide +kernel
theorem dX6_timesOfScaled_26 : decode cX6_timesOfScaled 26 = .ok (.iaload, 1) := by decide +kernel
theorem dX6_timesOfScaled_27 : decode cX6_timesOfScaled 27 = .ok (.imul, 1) := by decide +kernel
theorem dX6_timesOfScaled_28 : decode cX6_timesOfScaled 28 = .ok (.i2l, 1) := by decide +kernel
theorem dX6_timesOfScaled_29 : decode cX6_timesOfScaled 29 = .ok (.lmul, 1) := by decide +kernel
theorem dX6_timesOfScaled_30 : decode cX6_timesOfScaled 30 = .ok (.lstore_n 1, 1) := by decide +kernel
theorem dX6_timesOfScaled_31 : decode cX6_timesOfScaled 31 = .ok (.iinc 3 1, 3) := by decide +kernel
theorem dX6_timesOfScaled_34 : decode cX6_timesOfScaled 34 = .ok (.goto (-30), 3) := by decide +kernel
theorem dX6_timesOfScaled_37 : decode cX6_timesOfScaled 37 = .ok (.lload_n 1, 1) := by decide +kernel
theorem dX6_timesOfScaled_38 : decode cX6_timesOfScaled 38 = .ok (.lstore_n 3, 1) := by decide +kernel
theorem dX6_timesOfScaled_39 : decode cX6_timesOfScaled 39 = .ok (.lload_n 1, 1) := by decide +kernel
theorem dX6_timesOfScaled_40 : decode cX6_timesOfScaled 40 = .ok (.lstore 5, 2) := by decide +kernel
theorem dX6_timesOfScaled_42 : decode cX6_timesOfScaled 42 = .ok (.iconst 1, 1) := by decide +kernel
theorem dX6_timesOfScaled_43 : decode cX6_timesOfScaled 43 = .ok (.istore 7, 2) := by decide +kernel
theorem dX6_timesOfScaled_45 : decode cX6_timesOfScaled 45 = .ok (.iload 7, 2) := by decide +kernel
theorem dX6_timesOfScaled_47 : decode cX6_timesOfScaled 47 = .ok (.aload_n 0, 1) := by decide +kernel
theorem dX6_timesOfScaled_48 : decode cX6_timesOfScaled 48 = .ok (.getfield 41, 3) := by decide +kernel
theorem dX6_timesOfScaled_51 : decode cX6_timesOfScaled 51 = .ok (.if_icmp .gt 63, 3) := by decide +kernel
theorem dX6_timesOfScaled_54 : decode cX6_timesOfScaled 54 = .ok (.aload_n 0, 1) := by decide +kernel
theorem dX6_timesOfScaled_55 : decode cX6_timesOfScaled 55 = .ok (.getfield 9, 3) := by decide +kernel
theorem dX6_timesOfScaled_58 : decode cX6_timesOfScaled 58 = .ok (.iload 7, 2) := by decide +kernel
theorem dX6_timesOfScaled_60 : decode cX6_timesOfScaled 60 = .ok (.iconst 1, 1) := by decide +kernel
theorem dX6_timesOfScaled_61 : decode cX6_timesOfScaled 61 = .ok (.isub, 1) := by decide +kernel
theorem dX6_timesOfScaled_62 : decode cX6_timesOfScaled 62 = .ok (.iaload, 1) := by decide +kernel
theorem dX6_timesOfScaled_63 : decode cX6_timesOfScaled 63 = .ok (.aload_n 0, 1) := by decide +kernel
theorem dX6_timesOfScaled_64 : decode cX6_timesOfScaled 64 = .ok (.getfield 15, 3) := by decide +kernel
theorem dX6_timesOfScaled_67 : decode cX6_timesOfScaled 67 = .ok (.iload 7, 2) := by decide +kernel
theorem dX6_timesOfScaled_69 : decode cX6_timesOfScaled 69 = .ok (.iaload, 1) := by decide +kernel
theorem dX6_timesOfScaled_70 : decode cX6_timesOfScaled 70 = .ok (.imul, 1) := by decide +kernel
theorem dX6_timesOfScaled_71 : decode cX6_timesOfScaled 71 = .ok (.istore 8, 2) := by decide +kernel
theorem dX6_timesOfScaled_73 : decode cX6_timesOfScaled 73 = .ok (.iload 8, 2) := by decide +kernel
theorem dX6_timesOfScaled_75 : decode cX6_timesOfScaled 75 = .ok (.ifCond .ne 5, 3) := by decide +kernel
theorem dX6_timesOfScaled_78 : decode cX6_timesOfScaled 78 = .ok (.iconst (-1), 1) := by decide +kernel
theorem dX6_timesOfScaled_79 : decode cX6_timesOfScaled 79 = .ok (.ireturn, 1) := by decide +kernel
theorem dX6_timesOfScaled_80 : decode cX6_timesOfScaled 80 = .ok (.lload_n 3, 1) := by decide +kernel
theorem dX6_timesOfScaled_81 : decode cX6_timesOfScaled 81 = .ok (.iload 8, 2) := by decide +kernel
theorem dX6_timesOfScaled_83 : decode cX6_timesOfScaled 83 = .ok (.i2l, 1) := by decide +kernel
theorem dX6_timesOfScaled_84 : decode cX6_timesOfScaled 84 = .ok (.ldiv, 1) := by decide +kernel
theorem dX6_timesOfScaled_85 : decode cX6_timesOfScaled 85 = .ok (.lstore_n 3, 1) := by decide +kernel
theorem dX6_timesOfScaled_86 : decode cX6_timesOfScaled 86 = .ok (.lload 5, 2) := by decide +kernel
theorem dX6_timesOfScaled_88 : decode cX6_timesOfScaled 88 = .ok (.aload_n 0, 1) := by decide +kernel
theorem dX6_timesOfScaled_89 : decode cX6_timesOfScaled 89 = .ok (.getfield 25, 3) := by decide +kernel
theorem dX6_timesOfScaled_92 : decode cX6_timesOfScaled 92 = .ok (.iload 7, 2) := by decide +kernel
theorem dX6_timesOfScaled_94 : decode cX6_timesOfScaled 94 = .ok (.laload, 1) := by decide +kernel
theorem dX6_timesOfScaled_95 : decode cX6_timesOfScaled 95 = .ok (.aload_n 0, 1) := by decide +kernel
theorem dX6_timesOfScaled_96 : decode cX6_timesOfScaled 96 = .ok (.getfield 25, 3) := by decide +kernel
theorem dX6_timesOfScaled_99 : decode cX6_timesOfScaled 99 = .ok (.iload 7, 2) := by decide +kernel
theorem dX6_timesOfScaled_101 : decode cX6_timesOfScaled 101 = .ok (.laload, 1) := by decide +kernel
theorem dX6_timesOfScaled_102 : decode cX6_timesOfScaled 102 = .ok (.lmul, 1) := by decide +kernel
theorem dX6_timesOfScaled_103 : decode cX6_timesOfScaled 103 = .ok (.lload_n 3, 1) := by decide +kernel
theorem dX6_timesOfScaled_104 : decode cX6_timesOfScaled 104 = .ok (.lmul, 1) := by decide +kernel
theorem dX6_timesOfScaled_105 : decode cX6_timesOfScaled 105 = .ok (.ladd, 1) := by decide +kernel
theorem dX6_timesOfScaled_106 : decode cX6_timesOfScaled 106 = .ok (.lstore 5, 2) := by decide +kernel
theorem dX6_timesOfScaled_108 : decode cX6_timesOfScaled 108 = .ok (.iinc 7 1, 3) := by decide +kernel
theorem dX6_timesOfScaled_111 : decode cX6_timesOfScaled 111 = .ok (.goto (-66), 3) := by decide +kernel
theorem dX6_timesOfScaled_114 : decode cX6_timesOfScaled 114 = .ok (.aload_n 0, 1) := by decide +kernel
theorem dX6_timesOfScaled_115 : decode cX6_timesOfScaled 115 = .ok (.getfield 94, 3) := by decide +kernel
theorem dX6_timesOfScaled_118 : decode cX6_timesOfScaled 118 = .ok (.lload_n 1, 1) := by decide +kernel
theorem dX6_timesOfScaled_119 : decode cX6_timesOfScaled 119 = .ok (.lmul, 1) := by decide +kernel
theorem dX6_timesOfScaled_120 : decode cX6_timesOfScaled 120 = .ok (.lstore 7, 2) := by decide +kernel
theorem dX6_timesOfScaled_122 : decode cX6_timesOfScaled 122 = .ok (.lload 5, 2) := by decide +kernel
theorem dX6_timesOfScaled_124 : decode cX6_timesOfScaled 124 = .ok (.lconst 0, 1) := by decide +kernel
theorem dX6_timesOfScaled_125 : decode cX6_timesOfScaled 125 = .ok (.lcmp, 1) := by decide +kernel
theorem dX6_timesOfScaled_126 : decode cX6_timesOfScaled 126 = .ok (.ifCond .eq 13, 3) := by decide +kernel
theorem dX6_timesOfScaled_129 : decode cX6_timesOfScaled 129 = .ok (.lload 7, 2) := by decide +kernel
theorem dX6_timesOfScaled_131 : decode cX6_timesOfScaled 131 = .ok (.lload 5, 2) := by decide +kernel
theorem dX6_timesOfScaled_133 : decode cX6_timesOfScaled 133 = .ok (.lrem, 1) := by decide +kernel
theorem dX6_timesOfScaled_134 : decode cX6_timesOfScaled 134 = .ok (.lconst 0, 1) := by decide +kernel
theorem dX6_timesOfScaled_135 : decode cX6_timesOfScaled 135 = .ok (.lcmp, 1) := by decide +kernel
theorem dX6_timesOfScaled_136 : decode cX6_timesOfScaled 136 = .ok (.ifCond .eq 7, 3) := by decide +kernel
theorem dX6_timesOfScaled_139 : decode cX6_timesOfScaled 139 = .ok (.iconst (-1), 1) := by decide +kernel
theorem dX6_timesOfScaled_140 : decode cX6_timesOfScaled 140 = .ok (.goto 9, 3) := by decide +kernel
theorem dX6_timesOfScaled_143 : decode cX6_timesOfScaled 143 = .ok (.lload 7, 2) := by decide +kernel
theorem dX6_timesOfScaled_145 : decode cX6_timesOfScaled 145 = .ok (.lload 5, 2) := by decide +kernel
theorem dX6_timesOfScaled_147 : decode cX6_timesOfScaled 147 = .ok (.ldiv, 1) := by decide +kernel
theorem dX6_timesOfScaled_148 : decode cX6_timesOfScaled 148 = .ok (.l2i, 1) := by decide +kernel
theorem dX6_timesOfScaled_149 : decode cX6_timesOfScaled 149 = .ok (.ireturn, 1) := by decide +kernel
set_option maxRecDepth 20000 in
theorem ggX6_countWalks_J7_fill_d0a16 : GoodIn wsX6_countWalks wsJ7_fill_d0a16 := goodIn_r _ [8] (by decide +kernel) (by decide +kernel)
set_option maxRecDepth 20000 in
theorem gX6_countWalks_J7_fill_d0a16 : GoodIn wsX6_countWalks (va_wsS RX6 124 yJ7_fill_d0a16 wsJ7_fill_d0a16) := goodIn_app (goodIn_of _ (by decide +kernel)) ggX6_countWalks_J7_fill_d0a16
set_option maxRecDepth 20000 in
theorem ggX6_countWalks_X6_level : GoodIn wsX6_countWalks wsX6_level := goodIn_r _ [13, 4, 3, 14, 15, 16, 17, 18, 19, 20, 21, 22, 23, 24, 25, 26] (by decide +kernel) (by decide +kernel)
set_option maxRecDepth 20000 in
theorem gX6_countWalks_X6_level : GoodIn wsX6_countWalks (wsV RX6 90 RX6 yX6_level wsX6_level) := goodIn_app (goodIn_of _ (by decide +kernel)) ggX6_countWalks_X6_level
theorem dX6_countWalks_0 : decode cX6_countWalks 0 = .ok (.aload_n 0, 1) := by decide +kernel
theorem dX6_countWalks_1 : decode cX6_countWalks 1 = .ok (.getfield 28, 3) := by decide +kernel
theorem dX6_countWalks_4 : decode cX6_countWalks 4 = .ok (.lconst 0, 1) := by decide +kernel
theorem dX6_countWalks_5 : decode cX6_countWalks 5 = .ok (.invokestatic 124, 3) := by decide +kernel
theorem dX6_countWalks_8 : decode cX6_countWalks 8 = .ok (.aload_n 0, 1) := by decide +kernel
theorem dX6_countWalks_9 : decode cX6_countWalks 9 = .ok (.getfield 28, 3) := by decide +kernel
theorem dX6_countWalks_12 : decode cX6_countWalks 12 = .ok (.iconst 0, 1) := by decide +kernel
theorem dX6_countWalks_13 : decode cX6_countWalks 13 = .ok (.lconst 1, 1) := by decide +kernel
theorem dX6_countWalks_14 : decode cX6_countWalks 14 = .ok (.lastore, 1) := by decide +kernel
theorem dX6_countWalks_15 : decode cX6_countWalks 15 = .ok (.iconst 0, 1) := by decide +kernel
theorem dX6_countWalks_16 : decode cX6_countWalks 16 = .ok (.istore_n 3, 1) := by decide +kernel
theorem dX6_countWalks_17 : decode cX6_countWalks 17 = .ok (.iload_n 3, 1) := by decide +kernel
theorem dX6_countWalks_18 : decode cX6_countWalks 18 = .ok (.iload_n 2, 1) := by decide +kernel
theorem dX6_countWalks_19 : decode cX6_countWalks 19 = .ok (.if_icmp .ge 108, 3) := by decide +kernel
theorem dX6_countWalks_22 : decode cX6_countWalks 22 = .ok (.lconst 0, 1) := by decide +kernel
theorem dX6_countWalks_23 : decode cX6_countWalks 23 = .ok (.lstore 4, 2) := by decide +kernel
theorem dX6_countWalks_25 : decode cX6_countWalks 25 = .ok (.iconst 0, 1) := by decide +kernel
theorem dX6_countWalks_26 : decode cX6_countWalks 26 = .ok (.istore 6, 2) := by decide +kernel
theorem dX6_countWalks_28 : decode cX6_countWalks 28 = .ok (.iload 6, 2) := by decide +kernel
theorem dX6_countWalks_30 : decode cX6_countWalks 30 = .ok (.aload_n 0, 1) := by decide +kernel
theorem dX6_countWalks_31 : decode cX6_countWalks 31 = .ok (.getfield 41, 3) := by decide +kernel
theorem dX6_countWalks_34 : decode cX6_countWalks 34 = .ok (.if_icmp .gt 87, 3) := by decide +kernel
theorem dX6_countWalks_37 : decode cX6_countWalks 37 = .ok (.aload_n 0, 1) := by decide +kernel
theorem dX6_countWalks_38 : decode cX6_countWalks 38 = .ok (.getfield 28, 3) := by decide +kernel
theorem dX6_countWalks_41 : decode cX6_countWalks 41 = .ok (.iload 6, 2) := by decide +kernel
theorem dX6_countWalks_43 : decode cX6_countWalks 43 = .ok (.laload, 1) := by decide +kernel
theorem dX6_countWalks_44 : decode cX6_countWalks 44 = .ok (.lstore 7, 2) := by decide +kernel
theorem dX6_countWalks_46 : decode cX6_countWalks 46 = .ok (.iload 6, 2) := by decide +kernel
theorem dX6_countWalks_48 : decode cX6_countWalks 48 = .ok (.aload_n 0, 1) := by decide +kernel
theorem dX6_countWalks_49 : decode cX6_countWalks 49 = .ok (.getfield 41, 3) := by decide +kernel
theorem dX6_countWalks_52 : decode cX6_countWalks 52 = .ok (.if_icmp .ge 15, 3) := by decide +kernel
theorem dX6_countWalks_55 : decode cX6_countWalks 55 = .ok (.aload_n 0, 1) := by decide +kernel
theorem dX6_countWalks_56 : decode cX6_countWalks 56 = .ok (.getfield 28, 3) := by decide +kernel
theorem dX6_countWalks_59 : decode cX6_countWalks 59 = .ok (.iload 6, 2) := by decide +kernel
theorem dX6_countWalks_61 : decode cX6_countWalks 61 = .ok (.iconst 1, 1) := by decide +kernel
theorem dX6_countWalks_62 : decode cX6_countWalks 62 = .ok (.iadd, 1) := by decide +kernel
theorem dX6_countWalks_63 : decode cX6_countWalks 63 = .ok (.laload, 1) := by decide +kernel
theorem dX6_countWalks_64 : decode cX6_countWalks 64 = .ok (.goto 4, 3) := by decide +kernel
theorem dX6_countWalks_67 : decode cX6_countWalks 67 = .ok (.lconst 0, 1) := by decide +kernel
theorem dX6_countWalks_68 : decode cX6_countWalks 68 = .ok (.lstore 9, 2) := by decide +kernel
theorem dX6_countWalks_70 : decode cX6_countWalks 70 = .ok (.aload_n 0, 1) := by decide +kernel
theorem dX6_countWalks_71 : decode cX6_countWalks 71 = .ok (.getfield 28, 3) := by decide +kernel
theorem dX6_countWalks_74 : decode cX6_countWalks 74 = .ok (.iload 6, 2) := by decide +kernel
theorem dX6_countWalks_76 : decode cX6_countWalks 76 = .ok (.aload_n 0, 1) := by decide +kernel
theorem dX6_countWalks_77 : decode cX6_countWalks 77 = .ok (.getfield 15, 3) := by decide +kernel
theorem dX6_countWalks_80 : decode cX6_countWalks 80 = .ok (.iload 6, 2) := by decide +kernel
theorem dX6_countWalks_82 : decode cX6_countWalks 82 = .ok (.iaload, 1) := by decide +kernel
theorem dX6_countWalks_83 : decode cX6_countWalks 83 = .ok (.i2l, 1) := by decide +kernel
theorem dX6_countWalks_84 : decode cX6_countWalks 84 = .ok (.lload 4, 2) := by decide +kernel
theorem dX6_countWalks_86 : decode cX6_countWalks 86 = .ok (.lmul, 1) := by decide +kernel
theorem dX6_countWalks_87 : decode cX6_countWalks 87 = .ok (.aload_n 0, 1) := by decide +kernel
theorem dX6_countWalks_88 : decode cX6_countWalks 88 = .ok (.iload 6, 2) := by decide +kernel
theorem dX6_countWalks_90 : decode cX6_countWalks 90 = .ok (.invokevirtual 90, 3) := by decide +kernel
theorem dX6_countWalks_93 : decode cX6_countWalks 93 = .ok (.i2l, 1) := by decide +kernel
theorem dX6_countWalks_94 : decode cX6_countWalks 94 = .ok (.lload 7, 2) := by decide +kernel
theorem dX6_countWalks_96 : decode cX6_countWalks 96 = .ok (.lmul, 1) := by decide +kernel
theorem dX6_countWalks_97 : decode cX6_countWalks 97 = .ok (.ladd, 1) := by decide +kernel
theorem dX6_countWalks_98 : decode cX6_countWalks 98 = .ok (.aload_n 0, 1) := by decide +kernel
theorem dX6_countWalks_99 : decode cX6_countWalks 99 = .ok (.getfield 9, 3) := by decide +kernel
theorem dX6_countWalks_102 : decode cX6_countWalks 102 = .ok (.iload 6, 2) := by decide +kernel
theorem dX6_countWalks_104 : decode cX6_countWalks 104 = .ok (.iaload, 1) := by decide +kernel
theorem dX6_countWalks_105 : decode cX6_countWalks 105 = .ok (.i2l, 1) := by decide +kernel
theorem dX6_countWalks_106 : decode cX6_countWalks 106 = .ok (.lload 9, 2) := by decide +kernel
theorem dX6_countWalks_108 : decode cX6_countWalks 108 = .ok (.lmul, 1) := by decide +kernel
theorem dX6_countWalks_109 : decode cX6_countWalks 109 = .ok (.ladd, 1) := by decide +kernel
theorem dX6_countWalks_110 : decode cX6_countWalks 110 = .ok (.lastore, 1) := by decide +kernel
theorem dX6_countWalks_111 : decode cX6_countWalks 111 = .ok (.lload 7, 2) := by decide +kernel
theorem dX6_countWalks_113 : decode cX6_countWalks 113 = .ok (.lstore 4, 2) := by decide +kernel
theorem dX6_countWalks_115 : decode cX6_countWalks 115 = .ok (.iinc 6 1, 3) := by decide +kernel
theorem dX6_countWalks_118 : decode cX6_countWalks 118 = .ok (.goto (-90), 3) := by decide +kernel
theorem dX6_countWalks_121 : decode cX6_countWalks 121 = .ok (.iinc 3 1, 3) := by decide +kernel
theorem dX6_countWalks_124 : decode cX6_countWalks 124 = .ok (.goto (-107), 3) := by decide +kernel
theorem dX6_countWalks_127 : decode cX6_countWalks 127 = .ok (.aload_n 0, 1) := by decide +kernel
theorem dX6_countWalks_128 : decode cX6_countWalks 128 = .ok (.getfield 28, 3) := by decide +kernel
theorem dX6_countWalks_131 : decode cX6_countWalks 131 = .ok (.iload_n 1, 1) := by decide +kernel
theorem dX6_countWalks_132 : decode cX6_countWalks 132 = .ok (.laload, 1) := by decide +kernel
theorem dX6_countWalks_133 : decode cX6_countWalks 133 = .ok (.lreturn, 1) := by decide +kernel
theorem dX7_init_0 : decode cX7_init 0 = .ok (.aload_n 0, 1) := by decide +kernel
theorem dX7_init_1 : decode cX7_init 1 = .ok (.invokespecial 3, 3) := by decide +kernel
theorem dX7_init_4 : decode cX7_init 4 = .ok (.aload_n 0, 1) := by decide +kernel
theorem dX7_init_5 : decode cX7_init 5 = .ok (.sipush 1024, 3) := by decide +kernel
theorem dX7_init_8 : decode cX7_init 8 = .ok (.newarray .int, 2) := by decide +kernel
theorem dX7_init_10 : decode cX7_init 10 = .ok (.putfield 9, 3) := by decide +kernel
theorem dX7_init_13 : decode cX7_init 13 = .ok (.aload_n 0, 1) := by decide +kernel
theorem dX7_init_14 : decode cX7_init 14 = .ok (.sipush 1024, 3) := by decide +kernel
theorem dX7_init_17 : decode cX7_init 17 = .ok (.newarray .int, 2) := by decide +kernel
theorem dX7_init_19 : decode cX7_init 19 = .ok (.putfield 15, 3) := by decide +kernel
theorem dX7_init_22 : decode cX7_init 22 = .ok (.aload_n 0, 1) := by decide +kernel
theorem dX7_init_23 : decode cX7_init 23 = .ok (.bipush 32, 2) := by decide +kernel
theorem dX7_init_25 : decode cX7_init 25 = .ok (.newarray .int, 2) := by decide +kernel
theorem dX7_init_27 : decode cX7_init 27 = .ok (.putfield 18, 3) := by decide +kernel
theorem dX7_init_30 : decode cX7_init 30 = .ok (.return_, 1) := by decide +kernel
set_option maxRecDepth 20000 in
theorem ggX7_measure_J7_fill_53178 : GoodIn wsX7_measure wsJ7_fill_53178 := goodIn_r _ [16] (by decide +kernel) (by decide +kernel)
set_option maxRecDepth 20000 in
theorem gX7_measure_J7_fill_53178 : GoodIn wsX7_measure (va_wsS RX7 28 yJ7_fill_53178 wsJ7_fill_53178) := goodIn_app (goodIn_of _ (by decide +kernel)) ggX7_measure_J7_fill_53178
set_option maxRecDepth 20000 in
theorem ggX7_measure_X7_spread : GoodIn wsX7_measure wsX7_spread := goodIn_r _ [21, 4, 9, 22, 23, 24, 20, 25, 2, 3, 26, 27, 28, 29, 30, 31, 32, 33, 34, 35, 40, 41, 42, 43, 44, 45, 46, 38, 39] (by decide +kernel) (by decide +kernel)
set_option maxRecDepth 20000 in
theorem gX7_measure_X7_spread : GoodIn wsX7_measure (wsV RX7 34 RX7 yX7_spread wsX7_spread) := goodIn_app (goodIn_of _ (by decide +kernel)) ggX7_measure_X7_spread
set_option maxRecDepth 20000 in
theorem ggX7_measure_X8_allOf : GoodIn wsX7_measure wsX8_allOf := goodIn_r _ [37] (by decide +kernel) (by decide +kernel)
set_option maxRecDepth 20000 in
theorem gX7_measure_X8_allOf_n44 : GoodIn wsX7_measure (wsX8_allOf) := ggX7_measure_X8_allOf
theorem dX7_measure_0 : decode cX7_measure 0 = .ok (.aload_n 0, 1) := by decide +kernel
theorem dX7_measure_1 : decode cX7_measure 1 = .ok (.aload_n 1, 1) := by decide +kernel
theorem dX7_measure_2 : decode cX7_measure 2 = .ok (.getfield 21, 3) := by decide +kernel
theorem dX7_measure_5 : decode cX7_measure 5 = .ok (.putfield 27, 3) := by decide +kernel
theorem dX7_measure_8 : decode cX7_measure 8 = .ok (.aload_n 0, 1) := by decide +kernel
theorem dX7_measure_9 : decode cX7_measure 9 = .ok (.getfield 9, 3) := by decide +kernel
theorem dX7_measure_12 : decode cX7_measure 12 = .ok (.iconst (-1), 1) := by decide +kernel
theorem dX7_measure_13 : decode cX7_measure 13 = .ok (.invokestatic 28, 3) := by decide +kernel
theorem dX7_measure_16 : decode cX7_measure 16 = .ok (.aload_n 0, 1) := by decide +kernel
theorem dX7_measure_17 : decode cX7_measure 17 = .ok (.getfield 15, 3) := by decide +kernel
theorem dX7_measure_20 : decode cX7_measure 20 = .ok (.iconst 0, 1) := by decide +kernel
theorem dX7_measure_21 : decode cX7_measure 21 = .ok (.invokestatic 28, 3) := by decide +kernel
theorem dX7_measure_24 : decode cX7_measure 24 = .ok (.iconst 0, 1) := by decide +kernel
theorem dX7_measure_25 : decode cX7_measure 25 = .ok (.istore_n 2, 1) := by decide +kernel
theorem dX7_measure_26 : decode cX7_measure 26 = .ok (.iconst 0, 1) := by decide +kernel
theorem dX7_measure_27 : decode cX7_measure 27 = .ok (.istore_n 3, 1) := by decide +kernel
theorem dX7_measure_28 : decode cX7_measure 28 = .ok (.iload_n 3, 1) := by decide +kernel
theorem dX7_measure_29 : decode cX7_measure 29 = .ok (.aload_n 0, 1) := by decide +kernel
theorem dX7_measure_30 : decode cX7_measure 30 = .ok (.getfield 27, 3) := by decide +kernel
theorem dX7_measure_33 : decode cX7_measure 33 = .ok (.if_icmp .ge 20, 3) := by decide +kernel
theorem dX7_measure_36 : decode cX7_measure 36 = .ok (.iload_n 2, 1) := by decide +kernel
theorem dX7_measure_37 : decode cX7_measure 37 = .ok (.aload_n 0, 1) := by decide +kernel
theorem dX7_measure_38 : decode cX7_measure 38 = .ok (.aload_n 1, 1) := by decide +kernel
theorem dX7_measure_39 : decode cX7_measure 39 = .ok (.iload_n 3, 1) := by decide +kernel
theorem dX7_measure_40 : decode cX7_measure 40 = .ok (.invokevirtual 34, 3) := by decide +kernel
theorem dX7_measure_43 : decode cX7_measure 43 = .ok (.invokestatic 38, 3) := by decide +kernel
theorem dX7_measure_46 : decode cX7_measure 46 = .ok (.istore_n 2, 1) := by decide +kernel
theorem dX7_measure_47 : decode cX7_measure 47 = .ok (.iinc 3 1, 3) := by decide +kernel
theorem dX7_measure_50 : decode cX7_measure 50 = .ok (.goto (-22), 3) := by decide +kernel
theorem dX7_measure_53 : decode cX7_measure 53 = .ok (.aload_n 0, 1) := by decide +kernel
theorem dX7_measure_54 : decode cX7_measure 54 = .ok (.aload_n 0, 1) := by decide +kernel
theorem dX7_measure_55 : decode cX7_measure 55 = .ok (.getfield 27, 3) := by decide +kernel
theorem dX7_measure_58 : decode cX7_measure 58 = .ok (.ifCond .le 23, 3) := by decide +kernel
theorem dX7_measure_61 : decode cX7_measure 61 = .ok (.aload_n 0, 1) := by decide +kernel
theorem dX7_measure_62 : decode cX7_measure 62 = .ok (.getfield 18, 3) := by decide +kernel
theorem dX7_measure_65 : decode cX7_measure 65 = .ok (.iconst 0, 1) := by decide +kernel
theorem dX7_measure_66 : decode cX7_measure 66 = .ok (.iaload, 1) := by decide +kernel
theorem dX7_measure_67 : decode cX7_measure 67 = .ok (.aload_n 0, 1) := by decide +kernel
theorem dX7_measure_68 : decode cX7_measure 68 = .ok (.getfield 27, 3) := by decide +kernel
theorem dX7_measure_71 : decode cX7_measure 71 = .ok (.invokestatic 44, 3) := by decide +kernel
theorem dX7_measure_74 : decode cX7_measure 74 = .ok (.if_icmp .ne 7, 3) := by decide +kernel
theorem dX7_measure_77 : decode cX7_measure 77 = .ok (.iconst 1, 1) := by decide +kernel
theorem dX7_measure_78 : decode cX7_measure 78 = .ok (.goto 4, 3) := by decide +kernel
theorem dX7_measure_81 : decode cX7_measure 81 = .ok (.iconst 0, 1) := by decide +kernel
theorem dX7_measure_82 : decode cX7_measure 82 = .ok (.putfield 48, 3) := by decide +kernel
theorem dX7_measure_85 : decode cX7_measure 85 = .ok (.aload_n 0, 1) := by decide +kernel
theorem dX7_measure_86 : decode cX7_measure 86 = .ok (.aload_n 0, 1) := by decide +kernel
theorem dX7_measure_87 : decode cX7_measure 87 = .ok (.getfield 48, 3) := by decide +kernel
theorem dX7_measure_90 : decode cX7_measure 90 = .ok (.ifCond .eq 7, 3) := by decide +kernel
theorem dX7_measure_93 : decode cX7_measure 93 = .ok (.iload_n 2, 1) := by decide +kernel
theorem dX7_measure_94 : decode cX7_measure 94 = .ok (.goto 4, 3) := by decide +kernel
theorem dX7_measure_97 : decode cX7_measure 97 = .ok (.iconst (-1), 1) := by decide +kernel
theorem dX7_measure_98 : decode cX7_measure 98 = .ok (.putfield 52, 3) := by decide +kernel
theorem dX7_measure_101 : decode cX7_measure 101 = .ok (.aload_n 0, 1) := by decide +kernel
theorem dX7_measure_102 : decode cX7_measure 102 = .ok (.iconst 1, 1) := by decide +kernel
theorem dX7_measure_103 : decode cX7_measure 103 = .ok (.putfield 55, 3) := by decide +kernel
theorem dX7_measure_106 : decode cX7_measure 106 = .ok (.return_, 1) := by decide +kernel
set_option maxRecDepth 20000 in
theorem ggX7_spread_X7_noteSteps : GoodIn wsX7_spread wsX7_noteSteps := goodIn_r _ [7, 8, 9, 10, 11, 12, 20, 21, 22, 23, 24, 25, 26] (by decide +kernel) (by decide +kernel)
set_option maxRecDepth 20000 in
theorem gX7_spread_X7_noteSteps : GoodIn wsX7_spread (wsV RX7 58 RX7 yX7_noteSteps wsX7_noteSteps) := goodIn_app (goodIn_of _ (by decide +kernel)) ggX7_spread_X7_noteSteps
set_option maxRecDepth 20000 in
theorem ggX7_spread_X2_around : GoodIn wsX7_spread wsX2_around := goodIn_r _ [17, 18, 19, 10, 11, 12, 27, 28] (by decide +kernel) (by decide +kernel)
set_option maxRecDepth 20000 in
theorem gX7_spread_X2_around : GoodIn wsX7_spread (wsV RX7 62 RX2 yX2_around wsX2_around) := goodIn_app (goodIn_of _ (by decide +kernel)) ggX7_spread_X2_around
theorem dX7_spread_0 : decode cX7_spread 0 = .ok (.iconst 1, 1) := by decide +kernel
theorem dX7_spread_1 : decode cX7_spread 1 = .ok (.iload_n 2, 1) := by decide +kernel
theorem dX7_spread_2 : decode cX7_spread 2 = .ok (.ishl, 1) := by decide +kernel
theorem dX7_spread_3 : decode cX7_spread 3 = .ok (.istore_n 3, 1) := by decide +kernel
theorem dX7_spread_4 : decode cX7_spread 4 = .ok (.iload_n 3, 1) := by decide +kernel
theorem dX7_spread_5 : decode cX7_spread 5 = .ok (.istore 4, 2) := by decide +kernel
theorem dX7_spread_7 : decode cX7_spread 7 = .ok (.iconst 0, 1) := by decide +kernel
theorem dX7_spread_8 : decode cX7_spread 8 = .ok (.istore 5, 2) := by decide +kernel
theorem dX7_spread_10 : decode cX7_spread 10 = .ok (.iconst 0, 1) := by decide +kernel
theorem dX7_spread_11 : decode cX7_spread 11 = .ok (.istore 6, 2) := by decide +kernel
theorem dX7_spread_13 : decode cX7_spread 13 = .ok (.iload 6, 2) := by decide +kernel
theorem dX7_spread_15 : decode cX7_spread 15 = .ok (.bipush 32, 2) := by decide +kernel
theorem dX7_spread_17 : decode cX7_spread 17 = .ok (.if_icmp .ge 55, 3) := by decide +kernel
theorem dX7_spread_20 : decode cX7_spread 20 = .ok (.iload_n 3, 1) := by decide +kernel
theorem dX7_spread_21 : decode cX7_spread 21 = .ok (.ifCond .eq 51, 3) := by decide +kernel
theorem dX7_spread_24 : decode cX7_spread 24 = .ok (.aload_n 0, 1) := by decide +kernel
theorem dX7_spread_25 : decode cX7_spread 25 = .ok (.getfield 15, 3) := by decide +kernel
theorem dX7_spread_28 : decode cX7_spread 28 = .ok (.iload_n 2, 1) := by decide +kernel
theorem dX7_spread_29 : decode cX7_spread 29 = .ok (.bipush 32, 2) := by decide +kernel
theorem dX7_spread_31 : decode cX7_spread 31 = .ok (.imul, 1) := by decide +kernel
theorem dX7_spread_32 : decode cX7_spread 32 = .ok (.iload 6, 2) := by decide +kernel
theorem dX7_spread_34 : decode cX7_spread 34 = .ok (.iadd, 1) := by decide +kernel
theorem dX7_spread_35 : decode cX7_spread 35 = .ok (.iload_n 3, 1) := by decide +kernel
theorem dX7_spread_36 : decode cX7_spread 36 = .ok (.iastore, 1) := by decide +kernel
theorem dX7_spread_37 : decode cX7_spread 37 = .ok (.aload_n 0, 1) := by decide +kernel
theorem dX7_spread_38 : decode cX7_spread 38 = .ok (.iload_n 2, 1) := by decide +kernel
theorem dX7_spread_39 : decode cX7_spread 39 = .ok (.iload_n 3, 1) := by decide +kernel
theorem dX7_spread_40 : decode cX7_spread 40 = .ok (.iload 6, 2) := by decide +kernel
theorem dX7_spread_42 : decode cX7_spread 42 = .ok (.invokevirtual 58, 3) := by decide +kernel
theorem dX7_spread_45 : decode cX7_spread 45 = .ok (.iload 6, 2) := by decide +kernel
theorem dX7_spread_47 : decode cX7_spread 47 = .ok (.istore 5, 2) := by decide +kernel
theorem dX7_spread_49 : decode cX7_spread 49 = .ok (.aload_n 1, 1) := by decide +kernel
theorem dX7_spread_50 : decode cX7_spread 50 = .ok (.iload_n 3, 1) := by decide +kernel
theorem dX7_spread_51 : decode cX7_spread 51 = .ok (.invokevirtual 62, 3) := by decide +kernel
theorem dX7_spread_54 : decode cX7_spread 54 = .ok (.iload 4, 2) := by decide +kernel
theorem dX7_spread_56 : decode cX7_spread 56 = .ok (.iconst (-1), 1) := by decide +kernel
theorem dX7_spread_57 : decode cX7_spread 57 = .ok (.ixor, 1) := by decide +kernel
theorem dX7_spread_58 : decode cX7_spread 58 = .ok (.iand, 1) := by decide +kernel
theorem dX7_spread_59 : decode cX7_spread 59 = .ok (.istore_n 3, 1) := by decide +kernel
theorem dX7_spread_60 : decode cX7_spread 60 = .ok (.iload 4, 2) := by decide +kernel
theorem dX7_spread_62 : decode cX7_spread 62 = .ok (.iload_n 3, 1) := by decide +kernel
theorem dX7_spread_63 : decode cX7_spread 63 = .ok (.ior, 1) := by decide +kernel
theorem dX7_spread_64 : decode cX7_spread 64 = .ok (.istore 4, 2) := by decide +kernel
theorem dX7_spread_66 : decode cX7_spread 66 = .ok (.iinc 6 1, 3) := by decide +kernel
theorem dX7_spread_69 : decode cX7_spread 69 = .ok (.goto (-56), 3) := by decide +kernel
theorem dX7_spread_72 : decode cX7_spread 72 = .ok (.aload_n 0, 1) := by decide +kernel
theorem dX7_spread_73 : decode cX7_spread 73 = .ok (.getfield 18, 3) := by decide +kernel
theorem dX7_spread_76 : decode cX7_spread 76 = .ok (.iload_n 2, 1) := by decide +kernel
theorem dX7_spread_77 : decode cX7_spread 77 = .ok (.iload 4, 2) := by decide +kernel
theorem dX7_spread_79 : decode cX7_spread 79 = .ok (.iastore, 1) := by decide +kernel
theorem dX7_spread_80 : decode cX7_spread 80 = .ok (.iload 5, 2) := by decide +kernel
theorem dX7_spread_82 : decode cX7_spread 82 = .ok (.ireturn, 1) := by decide +kernel
set_option maxRecDepth 20000 in
theorem ggX7_noteSteps_X8_isIn : GoodIn wsX7_noteSteps wsX8_isIn := goodIn_r _ [5] (by decide +kernel) (by decide +kernel)
set_option maxRecDepth 20000 in
theorem gX7_noteSteps_X8_isIn_n65 : GoodIn wsX7_noteSteps (wsX8_isIn) := ggX7_noteSteps_X8_isIn
theorem dX7_noteSteps_0 : decode cX7_noteSteps 0 = .ok (.iconst 0, 1) := by decide +kernel
theorem dX7_noteSteps_1 : decode cX7_noteSteps 1 = .ok (.istore 4, 2) := by decide +kernel
theorem dX7_noteSteps_3 : decode cX7_noteSteps 3 = .ok (.iload 4, 2) := by decide +kernel
theorem dX7_noteSteps_5 : decode cX7_noteSteps 5 = .ok (.aload_n 0, 1) := by decide +kernel
theorem dX7_noteSteps_6 : decode cX7_noteSteps 6 = .ok (.getfield 27, 3) := by decide +kernel
theorem dX7_noteSteps_9 : decode cX7_noteSteps 9 = .ok (.if_icmp .ge 31, 3) := by decide +kernel
theorem dX7_noteSteps_12 : decode cX7_noteSteps 12 = .ok (.iload_n 2, 1) := by decide +kernel
theorem dX7_noteSteps_13 : decode cX7_noteSteps 13 = .ok (.iload 4, 2) := by decide +kernel
theorem dX7_noteSteps_15 : decode cX7_noteSteps 15 = .ok (.invokestatic 65, 3) := by decide +kernel
theorem dX7_noteSteps_18 : decode cX7_noteSteps 18 = .ok (.ifCond .eq 16, 3) := by decide +kernel
theorem dX7_noteSteps_21 : decode cX7_noteSteps 21 = .ok (.aload_n 0, 1) := by decide +kernel
theorem dX7_noteSteps_22 : decode cX7_noteSteps 22 = .ok (.getfield 9, 3) := by decide +kernel
theorem dX7_noteSteps_25 : decode cX7_noteSteps 25 = .ok (.iload_n 1, 1) := by decide +kernel
theorem dX7_noteSteps_26 : decode cX7_noteSteps 26 = .ok (.bipush 32, 2) := by decide +kernel
theorem dX7_noteSteps_28 : decode cX7_noteSteps 28 = .ok (.imul, 1) := by decide +kernel
theorem dX7_noteSteps_29 : decode cX7_noteSteps 29 = .ok (.iload 4, 2) := by decide +kernel
theorem dX7_noteSteps_31 : decode cX7_noteSteps 31 = .ok (.iadd, 1) := by decide +kernel
theorem dX7_noteSteps_32 : decode cX7_noteSteps 32 = .ok (.iload_n 3, 1) := by decide +kernel
theorem dX7_noteSteps_33 : decode cX7_noteSteps 33 = .ok (.iastore, 1) := by decide +kernel
theorem dX7_noteSteps_34 : decode cX7_noteSteps 34 = .ok (.iinc 4 1, 3) := by decide +kernel
theorem dX7_noteSteps_37 : decode cX7_noteSteps 37 = .ok (.goto (-34), 3) := by decide +kernel
theorem dX7_noteSteps_40 : decode cX7_noteSteps 40 = .ok (.return_, 1) := by decide +kernel
theorem dX7_between_0 : decode cX7_between 0 = .ok (.aload_n 0, 1) := by decide +kernel
theorem dX7_between_1 : decode cX7_between 1 = .ok (.getfield 9, 3) := by decide +kernel
theorem dX7_between_4 : decode cX7_between 4 = .ok (.iload_n 1, 1) := by decide +kernel
theorem dX7_between_5 : decode cX7_between 5 = .ok (.bipush 32, 2) := by decide +kernel
theorem dX7_between_7 : decode cX7_between 7 = .ok (.imul, 1) := by decide +kernel
theorem dX7_between_8 : decode cX7_between 8 = .ok (.iload_n 2, 1) := by decide +kernel
theorem dX7_between_9 : decode cX7_between 9 = .ok (.iadd, 1) := by decide +kernel
theorem dX7_between_10 : decode cX7_between 10 = .ok (.iaload, 1) := by decide +kernel
theorem dX7_between_11 : decode cX7_between 11 = .ok (.ireturn, 1) := by decide +kernel
theorem dX7_postsAt_0 : decode cX7_postsAt 0 = .ok (.iload_n 2, 1) := by decide +kernel
theorem dX7_postsAt_1 : decode cX7_postsAt 1 = .ok (.ifCond .lt 9, 3) := by decide +kernel
theorem dX7_postsAt_4 : decode cX7_postsAt 4 = .ok (.iload_n 2, 1) := by decide +kernel
theorem dX7_postsAt_5 : decode cX7_postsAt 5 = .ok (.bipush 32, 2) := by decide +kernel
theorem dX7_postsAt_7 : decode cX7_postsAt 7 = .ok (.if_icmp .lt 7, 3) := by decide +kernel
theorem dX7_postsAt_10 : decode cX7_postsAt 10 = .ok (.iconst 0, 1) := by decide +kernel
theorem dX7_postsAt_11 : decode cX7_postsAt 11 = .ok (.goto 14, 3) := by decide +kernel
theorem dX7_postsAt_14 : decode cX7_postsAt 14 = .ok (.aload_n 0, 1) := by decide +kernel
theorem dX7_postsAt_15 : decode cX7_postsAt 15 = .ok (.getfield 15, 3) := by decide +kernel
theorem dX7_postsAt_18 : decode cX7_postsAt 18 = .ok (.iload_n 1, 1) := by decide +kernel
theorem dX7_postsAt_19 : decode cX7_postsAt 19 = .ok (.bipush 32, 2) := by decide +kernel
theorem dX7_postsAt_21 : decode cX7_postsAt 21 = .ok (.imul, 1) := by decide +kernel
theorem dX7_postsAt_22 : decode cX7_postsAt 22 = .ok (.iload_n 2, 1) := by decide +kernel
theorem dX7_postsAt_23 : decode cX7_postsAt 23 = .ok (.iadd, 1) := by decide +kernel
theorem dX7_postsAt_24 : decode cX7_postsAt 24 = .ok (.iaload, 1) := by decide +kernel
theorem dX7_postsAt_25 : decode cX7_postsAt 25 = .ok (.ireturn, 1) := by decide +kernel
set_option maxRecDepth 20000 in
theorem ggX7_postsWithin_X7_postsAt : GoodIn wsX7_postsWithin wsX7_postsAt := goodIn_r _ [5, 6, 7, 8, 9, 10, 11, 12, 13] (by decide +kernel) (by decide +kernel)
set_option maxRecDepth 20000 in
theorem gX7_postsWithin_X7_postsAt : GoodIn wsX7_postsWithin (wsV RX7 69 RX7 yX7_postsAt wsX7_postsAt) := goodIn_app (goodIn_of _ (by decide +kernel)) ggX7_postsWithin_X7_postsAt
theorem dX7_postsWithin_0 : decode cX7_postsWithin 0 = .ok (.iconst 0, 1) := by decide +kernel
theorem dX7_postsWithin_1 : decode cX7_postsWithin 1 = .ok (.istore_n 3, 1) := by decide +kernel
theorem dX7_postsWithin_2 : decode cX7_postsWithin 2 = .ok (.iconst 0, 1) := by decide +kernel
theorem dX7_postsWithin_3 : decode cX7_postsWithin 3 = .ok (.istore 4, 2) := by decide +kernel
theorem dX7_postsWithin_5 : decode cX7_postsWithin 5 = .ok (.iload 4, 2) := by decide +kernel
theorem dX7_postsWithin_7 : decode cX7_postsWithin 7 = .ok (.iload_n 2, 1) := by decide +kernel
theorem dX7_postsWithin_8 : decode cX7_postsWithin 8 = .ok (.if_icmp .gt 26, 3) := by decide +kernel
theorem dX7_postsWithin_11 : decode cX7_postsWithin 11 = .ok (.iload 4, 2) := by decide +kernel
theorem dX7_postsWithin_13 : decode cX7_postsWithin 13 = .ok (.bipush 32, 2) := by decide +kernel
theorem dX7_postsWithin_15 : decode cX7_postsWithin 15 = .ok (.if_icmp .ge 19, 3) := by decide +kernel
theorem dX7_postsWithin_18 : decode cX7_postsWithin 18 = .ok (.iload_n 3, 1) := by decide +kernel
theorem dX7_postsWithin_19 : decode cX7_postsWithin 19 = .ok (.aload_n 0, 1) := by decide +kernel
theorem dX7_postsWithin_20 : decode cX7_postsWithin 20 = .ok (.iload_n 1, 1) := by decide +kernel
theorem dX7_postsWithin_21 : decode cX7_postsWithin 21 = .ok (.iload 4, 2) := by decide +kernel
theorem dX7_postsWithin_23 : decode cX7_postsWithin 23 = .ok (.invokevirtual 69, 3) := by decide +kernel
theorem dX7_postsWithin_26 : decode cX7_postsWithin 26 = .ok (.ior, 1) := by decide +kernel
theorem dX7_postsWithin_27 : decode cX7_postsWithin 27 = .ok (.istore_n 3, 1) := by decide +kernel
theorem dX7_postsWithin_28 : decode cX7_postsWithin 28 = .ok (.iinc 4 1, 3) := by decide +kernel
theorem dX7_postsWithin_31 : decode cX7_postsWithin 31 = .ok (.goto (-26), 3) := by decide +kernel
theorem dX7_postsWithin_34 : decode cX7_postsWithin 34 = .ok (.iload_n 3, 1) := by decide +kernel
theorem dX7_postsWithin_35 : decode cX7_postsWithin 35 = .ok (.ireturn, 1) := by decide +kernel
set_option maxRecDepth 20000 in
theorem ggX7_pieces_X8_lowestBit : GoodIn wsX7_pieces wsX8_lowestBit := goodIn_r _ [5, 6, 7, 8, 9, 10, 11, 12] (by decide +kernel) (by decide +kernel)
set_option maxRecDepth 20000 in
theorem gX7_pieces_X8_lowestBit_n72 : GoodIn wsX7_pieces (wsX8_lowestBit) := ggX7_pieces_X8_lowestBit
theorem dX7_pieces_0 : decode cX7_pieces 0 = .ok (.iconst 0, 1) := by decide +kernel
theorem dX7_pieces_1 : decode cX7_pieces 1 = .ok (.istore_n 1, 1) := by decide +kernel
theorem dX7_pieces_2 : decode cX7_pieces 2 = .ok (.iconst 0, 1) := by decide +kernel
theorem dX7_pieces_3 : decode cX7_pieces 3 = .ok (.istore_n 2, 1) := by decide +kernel
theorem dX7_pieces_4 : decode cX7_pieces 4 = .ok (.iload_n 2, 1) := by decide +kernel
theorem dX7_pieces_5 : decode cX7_pieces 5 = .ok (.aload_n 0, 1) := by decide +kernel
theorem dX7_pieces_6 : decode cX7_pieces 6 = .ok (.getfield 27, 3) := by decide +kernel
theorem dX7_pieces_9 : decode cX7_pieces 9 = .ok (.if_icmp .ge 25, 3) := by decide +kernel
theorem dX7_pieces_12 : decode cX7_pieces 12 = .ok (.aload_n 0, 1) := by decide +kernel
theorem dX7_pieces_13 : decode cX7_pieces 13 = .ok (.getfield 18, 3) := by decide +kernel
theorem dX7_pieces_16 : decode cX7_pieces 16 = .ok (.iload_n 2, 1) := by decide +kernel
theorem dX7_pieces_17 : decode cX7_pieces 17 = .ok (.iaload, 1) := by decide +kernel
theorem dX7_pieces_18 : decode cX7_pieces 18 = .ok (.invokestatic 72, 3) := by decide +kernel
theorem dX7_pieces_21 : decode cX7_pieces 21 = .ok (.iload_n 2, 1) := by decide +kernel
theorem dX7_pieces_22 : decode cX7_pieces 22 = .ok (.if_icmp .ne 6, 3) := by decide +kernel
theorem dX7_pieces_25 : decode cX7_pieces 25 = .ok (.iinc 1 1, 3) := by decide +kernel
theorem dX7_pieces_28 : decode cX7_pieces 28 = .ok (.iinc 2 1, 3) := by decide +kernel
theorem dX7_pieces_31 : decode cX7_pieces 31 = .ok (.goto (-27), 3) := by decide +kernel
theorem dX7_pieces_34 : decode cX7_pieces 34 = .ok (.iload_n 1, 1) := by decide +kernel
theorem dX7_pieces_35 : decode cX7_pieces 35 = .ok (.ireturn, 1) := by decide +kernel
set_option maxRecDepth 20000 in
theorem ggX7_shortestRing_X7_ringSeen : GoodIn wsX7_shortestRing wsX7_ringSeen := goodIn_r _ [6, 7, 8, 9, 10, 5, 11, 12, 13, 14, 15, 16, 17, 18, 19, 20, 21, 22, 23, 24, 32, 33, 25, 26, 27, 28, 29, 30, 31] (by decide +kernel) (by decide +kernel)
set_option maxRecDepth 20000 in
theorem gX7_shortestRing_X7_ringSeen : GoodIn wsX7_shortestRing (wsV RX7 75 RX7 yX7_ringSeen wsX7_ringSeen) := goodIn_app (goodIn_of _ (by decide +kernel)) ggX7_shortestRing_X7_ringSeen
theorem dX7_shortestRing_0 : decode cX7_shortestRing 0 = .ok (.iconst 0, 1) := by decide +kernel
theorem dX7_shortestRing_1 : decode cX7_shortestRing 1 = .ok (.istore_n 2, 1) := by decide +kernel
theorem dX7_shortestRing_2 : decode cX7_shortestRing 2 = .ok (.iconst 0, 1) := by decide +kernel
theorem dX7_shortestRing_3 : decode cX7_shortestRing 3 = .ok (.istore_n 3, 1) := by decide +kernel
theorem dX7_shortestRing_4 : decode cX7_shortestRing 4 = .ok (.iload_n 3, 1) := by decide +kernel
theorem dX7_shortestRing_5 : decode cX7_shortestRing 5 = .ok (.aload_n 0, 1) := by decide +kernel
theorem dX7_shortestRing_6 : decode cX7_shortestRing 6 = .ok (.getfield 27, 3) := by decide +kernel
theorem dX7_shortestRing_9 : decode cX7_shortestRing 9 = .ok (.if_icmp .ge 55, 3) := by decide +kernel
theorem dX7_shortestRing_12 : decode cX7_shortestRing 12 = .ok (.iconst 0, 1) := by decide +kernel
theorem dX7_shortestRing_13 : decode cX7_shortestRing 13 = .ok (.istore 4, 2) := by decide +kernel
theorem dX7_shortestRing_15 : decode cX7_shortestRing 15 = .ok (.iload 4, 2) := by decide +kernel
theorem dX7_shortestRing_17 : decode cX7_shortestRing 17 = .ok (.aload_n 0, 1) := by decide +kernel
theorem dX7_shortestRing_18 : decode cX7_shortestRing 18 = .ok (.getfield 27, 3) := by decide +kernel
theorem dX7_shortestRing_21 : decode cX7_shortestRing 21 = .ok (.if_icmp .ge 37, 3) := by decide +kernel
theorem dX7_shortestRing_24 : decode cX7_shortestRing 24 = .ok (.aload_n 0, 1) := by decide +kernel
theorem dX7_shortestRing_25 : decode cX7_shortestRing 25 = .ok (.aload_n 1, 1) := by decide +kernel
theorem dX7_shortestRing_26 : decode cX7_shortestRing 26 = .ok (.iload_n 3, 1) := by decide +kernel
theorem dX7_shortestRing_27 : decode cX7_shortestRing 27 = .ok (.iload 4, 2) := by decide +kernel
theorem dX7_shortestRing_29 : decode cX7_shortestRing 29 = .ok (.invokevirtual 75, 3) := by decide +kernel
theorem dX7_shortestRing_32 : decode cX7_shortestRing 32 = .ok (.istore 5, 2) := by decide +kernel
theorem dX7_shortestRing_34 : decode cX7_shortestRing 34 = .ok (.iload 5, 2) := by decide +kernel
theorem dX7_shortestRing_36 : decode cX7_shortestRing 36 = .ok (.ifCond .le 16, 3) := by decide +kernel
theorem dX7_shortestRing_39 : decode cX7_shortestRing 39 = .ok (.iload_n 2, 1) := by decide +kernel
theorem dX7_shortestRing_40 : decode cX7_shortestRing 40 = .ok (.ifCond .eq 9, 3) := by decide +kernel
theorem dX7_shortestRing_43 : decode cX7_shortestRing 43 = .ok (.iload 5, 2) := by decide +kernel
theorem dX7_shortestRing_45 : decode cX7_shortestRing 45 = .ok (.iload_n 2, 1) := by decide +kernel
theorem dX7_shortestRing_46 : decode cX7_shortestRing 46 = .ok (.if_icmp .ge 6, 3) := by decide +kernel
theorem dX7_shortestRing_49 : decode cX7_shortestRing 49 = .ok (.iload 5, 2) := by decide +kernel
theorem dX7_shortestRing_51 : decode cX7_shortestRing 51 = .ok (.istore_n 2, 1) := by decide +kernel
theorem dX7_shortestRing_52 : decode cX7_shortestRing 52 = .ok (.iinc 4 1, 3) := by decide +kernel
theorem dX7_shortestRing_55 : decode cX7_shortestRing 55 = .ok (.goto (-40), 3) := by decide +kernel
theorem dX7_shortestRing_58 : decode cX7_shortestRing 58 = .ok (.iinc 3 1, 3) := by decide +kernel
theorem dX7_shortestRing_61 : decode cX7_shortestRing 61 = .ok (.goto (-57), 3) := by decide +kernel
theorem dX7_shortestRing_64 : decode cX7_shortestRing 64 = .ok (.iload_n 2, 1) := by decide +kernel
theorem dX7_shortestRing_65 : decode cX7_shortestRing 65 = .ok (.ireturn, 1) := by decide +kernel
set_option maxRecDepth 20000 in
theorem ggX7_ringSeen_X7_between : GoodIn wsX7_ringSeen wsX7_between := goodIn_r _ [6, 7, 22, 23, 24, 25, 26, 27, 28] (by decide +kernel) (by decide +kernel)
set_option maxRecDepth 20000 in
theorem gX7_ringSeen_X7_between : GoodIn wsX7_ringSeen (wsV RX7 79 RX7 yX7_between wsX7_between) := goodIn_app (goodIn_of _ (by decide +kernel)) ggX7_ringSeen_X7_between
set_option maxRecDepth 20000 in
theorem ggX7_ringSeen_X7_postsAt : GoodIn wsX7_ringSeen wsX7_postsAt := goodIn_r _ [11, 12, 22, 23, 24, 25, 26, 27, 28] (by decide +kernel) (by decide +kernel)
set_option maxRecDepth 20000 in
theorem gX7_ringSeen_X7_postsAt : GoodIn wsX7_ringSeen (wsV RX7 69 RX7 yX7_postsAt wsX7_postsAt) := goodIn_app (goodIn_of _ (by decide +kernel)) ggX7_ringSeen_X7_postsAt
set_option maxRecDepth 20000 in
theorem ggX7_ringSeen_J6_bitCount_0f7a4 : GoodIn wsX7_ringSeen wsJ6_bitCount_0f7a4 := goodIn_r _ [16, 17, 18, 19] (by decide +kernel) (by decide +kernel)
set_option maxRecDepth 20000 in
theorem gX7_ringSeen_J6_bitCount_0f7a4 : GoodIn wsX7_ringSeen (va_wsS RX7 85 yJ6_bitCount_0f7a4 wsJ6_bitCount_0f7a4) := goodIn_app (goodIn_of _ (by decide +kernel)) ggX7_ringSeen_J6_bitCount_0f7a4
theorem dX7_ringSeen_0 : decode cX7_ringSeen 0 = .ok (.aload_n 0, 1) := by decide +kernel
theorem dX7_ringSeen_1 : decode cX7_ringSeen 1 = .ok (.iload_n 2, 1) := by decide +kernel
theorem dX7_ringSeen_2 : decode cX7_ringSeen 2 = .ok (.iload_n 3, 1) := by decide +kernel
theorem dX7_ringSeen_3 : decode cX7_ringSeen 3 = .ok (.invokevirtual 79, 3) := by decide +kernel
theorem dX7_ringSeen_6 : decode cX7_ringSeen 6 = .ok (.istore 4, 2) := by decide +kernel
theorem dX7_ringSeen_8 : decode cX7_ringSeen 8 = .ok (.iload 4, 2) := by decide +kernel
theorem dX7_ringSeen_10 : decode cX7_ringSeen 10 = .ok (.iconst 1, 1) := by decide +kernel
theorem dX7_ringSeen_11 : decode cX7_ringSeen 11 = .ok (.if_icmp .ge 5, 3) := by decide +kernel
theorem dX7_ringSeen_14 : decode cX7_ringSeen 14 = .ok (.iconst 0, 1) := by decide +kernel
theorem dX7_ringSeen_15 : decode cX7_ringSeen 15 = .ok (.ireturn, 1) := by decide +kernel
theorem dX7_ringSeen_16 : decode cX7_ringSeen 16 = .ok (.aload_n 1, 1) := by decide +kernel
theorem dX7_ringSeen_17 : decode cX7_ringSeen 17 = .ok (.getfield 82, 3) := by decide +kernel
theorem dX7_ringSeen_20 : decode cX7_ringSeen 20 = .ok (.iload_n 3, 1) := by decide +kernel
theorem dX7_ringSeen_21 : decode cX7_ringSeen 21 = .ok (.iaload, 1) := by decide +kernel
theorem dX7_ringSeen_22 : decode cX7_ringSeen 22 = .ok (.aload_n 0, 1) := by decide +kernel
theorem dX7_ringSeen_23 : decode cX7_ringSeen 23 = .ok (.iload_n 2, 1) := by decide +kernel
theorem dX7_ringSeen_24 : decode cX7_ringSeen 24 = .ok (.iload 4, 2) := by decide +kernel
theorem dX7_ringSeen_26 : decode cX7_ringSeen 26 = .ok (.iconst 1, 1) := by decide +kernel
theorem dX7_ringSeen_27 : decode cX7_ringSeen 27 = .ok (.isub, 1) := by decide +kernel
theorem dX7_ringSeen_28 : decode cX7_ringSeen 28 = .ok (.invokevirtual 69, 3) := by decide +kernel
theorem dX7_ringSeen_31 : decode cX7_ringSeen 31 = .ok (.iand, 1) := by decide +kernel
theorem dX7_ringSeen_32 : decode cX7_ringSeen 32 = .ok (.invokestatic 85, 3) := by decide +kernel
theorem dX7_ringSeen_35 : decode cX7_ringSeen 35 = .ok (.iconst 1, 1) := by decide +kernel
theorem dX7_ringSeen_36 : decode cX7_ringSeen 36 = .ok (.if_icmp .le 8, 3) := by decide +kernel
theorem dX7_ringSeen_39 : decode cX7_ringSeen 39 = .ok (.iconst 2, 1) := by decide +kernel
theorem dX7_ringSeen_40 : decode cX7_ringSeen 40 = .ok (.iload 4, 2) := by decide +kernel
theorem dX7_ringSeen_42 : decode cX7_ringSeen 42 = .ok (.imul, 1) := by decide +kernel
theorem dX7_ringSeen_43 : decode cX7_ringSeen 43 = .ok (.ireturn, 1) := by decide +kernel
theorem dX7_ringSeen_44 : decode cX7_ringSeen 44 = .ok (.aload_n 1, 1) := by decide +kernel
theorem dX7_ringSeen_45 : decode cX7_ringSeen 45 = .ok (.getfield 82, 3) := by decide +kernel
theorem dX7_ringSeen_48 : decode cX7_ringSeen 48 = .ok (.iload_n 3, 1) := by decide +kernel
theorem dX7_ringSeen_49 : decode cX7_ringSeen 49 = .ok (.iaload, 1) := by decide +kernel
theorem dX7_ringSeen_50 : decode cX7_ringSeen 50 = .ok (.aload_n 0, 1) := by decide +kernel
theorem dX7_ringSeen_51 : decode cX7_ringSeen 51 = .ok (.iload_n 2, 1) := by decide +kernel
theorem dX7_ringSeen_52 : decode cX7_ringSeen 52 = .ok (.iload 4, 2) := by decide +kernel
theorem dX7_ringSeen_54 : decode cX7_ringSeen 54 = .ok (.invokevirtual 69, 3) := by decide +kernel
theorem dX7_ringSeen_57 : decode cX7_ringSeen 57 = .ok (.iand, 1) := by decide +kernel
theorem dX7_ringSeen_58 : decode cX7_ringSeen 58 = .ok (.ifCond .eq 12, 3) := by decide +kernel
theorem dX7_ringSeen_61 : decode cX7_ringSeen 61 = .ok (.iconst 2, 1) := by decide +kernel
theorem dX7_ringSeen_62 : decode cX7_ringSeen 62 = .ok (.iload 4, 2) := by decide +kernel
theorem dX7_ringSeen_64 : decode cX7_ringSeen 64 = .ok (.imul, 1) := by decide +kernel
theorem dX7_ringSeen_65 : decode cX7_ringSeen 65 = .ok (.iconst 1, 1) := by decide +kernel
theorem dX7_ringSeen_66 : decode cX7_ringSeen 66 = .ok (.iadd, 1) := by decide +kernel
theorem dX7_ringSeen_67 : decode cX7_ringSeen 67 = .ok (.goto 4, 3) := by decide +kernel
theorem dX7_ringSeen_70 : decode cX7_ringSeen 70 = .ok (.iconst 0, 1) := by decide +kernel
theorem dX7_ringSeen_71 : decode cX7_ringSeen 71 = .ok (.ireturn, 1) := by decide +kernel
set_option maxRecDepth 20000 in
theorem ggX7_isOfSides_X7_between : GoodIn wsX7_isOfSides wsX7_between := goodIn_r _ [7, 8, 14, 15, 16, 17, 18, 19, 20] (by decide +kernel) (by decide +kernel)
set_option maxRecDepth 20000 in
theorem gX7_isOfSides_X7_between : GoodIn wsX7_isOfSides (wsV RX7 79 RX7 yX7_between wsX7_between) := goodIn_app (goodIn_of _ (by decide +kernel)) ggX7_isOfSides_X7_between
set_option maxRecDepth 20000 in
theorem ggX7_isOfSides_X7_postsAt : GoodIn wsX7_isOfSides wsX7_postsAt := goodIn_r _ [12, 13, 14, 15, 16, 17, 18, 19, 20] (by decide +kernel) (by decide +kernel)
set_option maxRecDepth 20000 in
theorem gX7_isOfSides_X7_postsAt : GoodIn wsX7_isOfSides (wsV RX7 69 RX7 yX7_postsAt wsX7_postsAt) := goodIn_app (goodIn_of _ (by decide +kernel)) ggX7_isOfSides_X7_postsAt
theorem dX7_isOfSides_0 : decode cX7_isOfSides 0 = .ok (.iconst 0, 1) := by decide +kernel
theorem dX7_isOfSides_1 : decode cX7_isOfSides 1 = .ok (.istore_n 2, 1) := by decide +kernel
theorem dX7_isOfSides_2 : decode cX7_isOfSides 2 = .ok (.iload_n 2, 1) := by decide +kernel
theorem dX7_isOfSides_3 : decode cX7_isOfSides 3 = .ok (.aload_n 0, 1) := by decide +kernel
theorem dX7_isOfSides_4 : decode cX7_isOfSides 4 = .ok (.getfield 27, 3) := by decide +kernel
theorem dX7_isOfSides_7 : decode cX7_isOfSides 7 = .ok (.if_icmp .ge 52, 3) := by decide +kernel
theorem dX7_isOfSides_10 : decode cX7_isOfSides 10 = .ok (.iconst 0, 1) := by decide +kernel
theorem dX7_isOfSides_11 : decode cX7_isOfSides 11 = .ok (.istore_n 3, 1) := by decide +kernel
theorem dX7_isOfSides_12 : decode cX7_isOfSides 12 = .ok (.iload_n 3, 1) := by decide +kernel
theorem dX7_isOfSides_13 : decode cX7_isOfSides 13 = .ok (.aload_n 0, 1) := by decide +kernel
theorem dX7_isOfSides_14 : decode cX7_isOfSides 14 = .ok (.getfield 27, 3) := by decide +kernel
theorem dX7_isOfSides_17 : decode cX7_isOfSides 17 = .ok (.if_icmp .ge 36, 3) := by decide +kernel
theorem dX7_isOfSides_20 : decode cX7_isOfSides 20 = .ok (.aload_n 0, 1) := by decide +kernel
theorem dX7_isOfSides_21 : decode cX7_isOfSides 21 = .ok (.iload_n 2, 1) := by decide +kernel
theorem dX7_isOfSides_22 : decode cX7_isOfSides 22 = .ok (.iload_n 3, 1) := by decide +kernel
theorem dX7_isOfSides_23 : decode cX7_isOfSides 23 = .ok (.invokevirtual 79, 3) := by decide +kernel
theorem dX7_isOfSides_26 : decode cX7_isOfSides 26 = .ok (.istore 4, 2) := by decide +kernel
theorem dX7_isOfSides_28 : decode cX7_isOfSides 28 = .ok (.aload_n 1, 1) := by decide +kernel
theorem dX7_isOfSides_29 : decode cX7_isOfSides 29 = .ok (.getfield 82, 3) := by decide +kernel
theorem dX7_isOfSides_32 : decode cX7_isOfSides 32 = .ok (.iload_n 3, 1) := by decide +kernel
theorem dX7_isOfSides_33 : decode cX7_isOfSides 33 = .ok (.iaload, 1) := by decide +kernel
theorem dX7_isOfSides_34 : decode cX7_isOfSides 34 = .ok (.aload_n 0, 1) := by decide +kernel
theorem dX7_isOfSides_35 : decode cX7_isOfSides 35 = .ok (.iload_n 2, 1) := by decide +kernel
theorem dX7_isOfSides_36 : decode cX7_isOfSides 36 = .ok (.iload 4, 2) := by decide +kernel
theorem dX7_isOfSides_38 : decode cX7_isOfSides 38 = .ok (.invokevirtual 69, 3) := by decide +kernel
theorem dX7_isOfSides_41 : decode cX7_isOfSides 41 = .ok (.iand, 1) := by decide +kernel
theorem dX7_isOfSides_42 : decode cX7_isOfSides 42 = .ok (.ifCond .eq 5, 3) := by decide +kernel
theorem dX7_isOfSides_45 : decode cX7_isOfSides 45 = .ok (.iconst 0, 1) := by decide +kernel
theorem dX7_isOfSides_46 : decode cX7_isOfSides 46 = .ok (.ireturn, 1) := by decide +kernel
theorem dX7_isOfSides_47 : decode cX7_isOfSides 47 = .ok (.iinc 3 1, 3) := by decide +kernel
theorem dX7_isOfSides_50 : decode cX7_isOfSides 50 = .ok (.goto (-38), 3) := by decide +kernel
theorem dX7_isOfSides_53 : decode cX7_isOfSides 53 = .ok (.iinc 2 1, 3) := by decide +kernel
theorem dX7_isOfSides_56 : decode cX7_isOfSides 56 = .ok (.goto (-54), 3) := by decide +kernel
theorem dX7_isOfSides_59 : decode cX7_isOfSides 59 = .ok (.iconst 1, 1) := by decide +kernel
theorem dX7_isOfSides_60 : decode cX7_isOfSides 60 = .ok (.ireturn, 1) := by decide +kernel
set_option maxRecDepth 20000 in
theorem ggX7_farGroup_X7_postsAt : GoodIn wsX7_farGroup wsX7_postsAt := goodIn_r _ [6, 7, 8, 9, 10, 11, 12, 13, 14] (by decide +kernel) (by decide +kernel)
set_option maxRecDepth 20000 in
theorem gX7_farGroup_X7_postsAt : GoodIn wsX7_farGroup (wsV RX7 69 RX7 yX7_postsAt wsX7_postsAt) := goodIn_app (goodIn_of _ (by decide +kernel)) ggX7_farGroup_X7_postsAt
theorem dX7_farGroup_0 : decode cX7_farGroup 0 = .ok (.iconst 1, 1) := by decide +kernel
theorem dX7_farGroup_1 : decode cX7_farGroup 1 = .ok (.iload_n 1, 1) := by decide +kernel
theorem dX7_farGroup_2 : decode cX7_farGroup 2 = .ok (.ishl, 1) := by decide +kernel
theorem dX7_farGroup_3 : decode cX7_farGroup 3 = .ok (.aload_n 0, 1) := by decide +kernel
theorem dX7_farGroup_4 : decode cX7_farGroup 4 = .ok (.iload_n 1, 1) := by decide +kernel
theorem dX7_farGroup_5 : decode cX7_farGroup 5 = .ok (.aload_n 0, 1) := by decide +kernel
theorem dX7_farGroup_6 : decode cX7_farGroup 6 = .ok (.getfield 52, 3) := by decide +kernel
theorem dX7_farGroup_9 : decode cX7_farGroup 9 = .ok (.invokevirtual 69, 3) := by decide +kernel
theorem dX7_farGroup_12 : decode cX7_farGroup 12 = .ok (.ior, 1) := by decide +kernel
theorem dX7_farGroup_13 : decode cX7_farGroup 13 = .ok (.ireturn, 1) := by decide +kernel
set_option maxRecDepth 20000 in
theorem ggX7_isFolded_X7_between : GoodIn wsX7_isFolded wsX7_between := goodIn_r _ [7, 8, 18, 19, 20, 21, 22, 23, 24] (by decide +kernel) (by decide +kernel)
set_option maxRecDepth 20000 in
theorem gX7_isFolded_X7_between : GoodIn wsX7_isFolded (wsV RX7 79 RX7 yX7_between wsX7_between) := goodIn_app (goodIn_of _ (by decide +kernel)) ggX7_isFolded_X7_between
set_option maxRecDepth 20000 in
theorem ggX7_isFolded_X7_farGroup : GoodIn wsX7_isFolded wsX7_farGroup := goodIn_r _ [12, 1, 13, 14, 15, 6, 16, 17, 18, 19, 20, 21, 22, 23, 24] (by decide +kernel) (by decide +kernel)
set_option maxRecDepth 20000 in
theorem gX7_isFolded_X7_farGroup : GoodIn wsX7_isFolded (wsV RX7 90 RX7 yX7_farGroup wsX7_farGroup) := goodIn_app (goodIn_of _ (by decide +kernel)) ggX7_isFolded_X7_farGroup
theorem dX7_isFolded_0 : decode cX7_isFolded 0 = .ok (.aload_n 0, 1) := by decide +kernel
theorem dX7_isFolded_1 : decode cX7_isFolded 1 = .ok (.getfield 52, 3) := by decide +kernel
theorem dX7_isFolded_4 : decode cX7_isFolded 4 = .ok (.iconst 1, 1) := by decide +kernel
theorem dX7_isFolded_5 : decode cX7_isFolded 5 = .ok (.if_icmp .ge 5, 3) := by decide +kernel
theorem dX7_isFolded_8 : decode cX7_isFolded 8 = .ok (.iconst 0, 1) := by decide +kernel
theorem dX7_isFolded_9 : decode cX7_isFolded 9 = .ok (.ireturn, 1) := by decide +kernel
theorem dX7_isFolded_10 : decode cX7_isFolded 10 = .ok (.iconst 0, 1) := by decide +kernel
theorem dX7_isFolded_11 : decode cX7_isFolded 11 = .ok (.istore_n 1, 1) := by decide +kernel
theorem dX7_isFolded_12 : decode cX7_isFolded 12 = .ok (.iload_n 1, 1) := by decide +kernel
theorem dX7_isFolded_13 : decode cX7_isFolded 13 = .ok (.aload_n 0, 1) := by decide +kernel
theorem dX7_isFolded_14 : decode cX7_isFolded 14 = .ok (.getfield 27, 3) := by decide +kernel
theorem dX7_isFolded_17 : decode cX7_isFolded 17 = .ok (.if_icmp .ge 55, 3) := by decide +kernel
theorem dX7_isFolded_20 : decode cX7_isFolded 20 = .ok (.iload_n 1, 1) := by decide +kernel
theorem dX7_isFolded_21 : decode cX7_isFolded 21 = .ok (.iconst 1, 1) := by decide +kernel
theorem dX7_isFolded_22 : decode cX7_isFolded 22 = .ok (.iadd, 1) := by decide +kernel
theorem dX7_isFolded_23 : decode cX7_isFolded 23 = .ok (.istore_n 2, 1) := by decide +kernel
theorem dX7_isFolded_24 : decode cX7_isFolded 24 = .ok (.iload_n 2, 1) := by decide +kernel
theorem dX7_isFolded_25 : decode cX7_isFolded 25 = .ok (.aload_n 0, 1) := by decide +kernel
theorem dX7_isFolded_26 : decode cX7_isFolded 26 = .ok (.getfield 27, 3) := by decide +kernel
theorem dX7_isFolded_29 : decode cX7_isFolded 29 = .ok (.if_icmp .ge 37, 3) := by decide +kernel
theorem dX7_isFolded_32 : decode cX7_isFolded 32 = .ok (.aload_n 0, 1) := by decide +kernel
theorem dX7_isFolded_33 : decode cX7_isFolded 33 = .ok (.iload_n 1, 1) := by decide +kernel
theorem dX7_isFolded_34 : decode cX7_isFolded 34 = .ok (.iload_n 2, 1) := by decide +kernel
theorem dX7_isFolded_35 : decode cX7_isFolded 35 = .ok (.invokevirtual 79, 3) := by decide +kernel
theorem dX7_isFolded_38 : decode cX7_isFolded 38 = .ok (.aload_n 0, 1) := by decide +kernel
theorem dX7_isFolded_39 : decode cX7_isFolded 39 = .ok (.getfield 52, 3) := by decide +kernel
theorem dX7_isFolded_42 : decode cX7_isFolded 42 = .ok (.if_icmp .ne 18, 3) := by decide +kernel
theorem dX7_isFolded_45 : decode cX7_isFolded 45 = .ok (.aload_n 0, 1) := by decide +kernel
theorem dX7_isFolded_46 : decode cX7_isFolded 46 = .ok (.iload_n 1, 1) := by decide +kernel
theorem dX7_isFolded_47 : decode cX7_isFolded 47 = .ok (.invokevirtual 90, 3) := by decide +kernel
theorem dX7_isFolded_50 : decode cX7_isFolded 50 = .ok (.aload_n 0, 1) := by decide +kernel
theorem dX7_isFolded_51 : decode cX7_isFolded 51 = .ok (.iload_n 2, 1) := by decide +kernel
theorem dX7_isFolded_52 : decode cX7_isFolded 52 = .ok (.invokevirtual 90, 3) := by decide +kernel
theorem dX7_isFolded_55 : decode cX7_isFolded 55 = .ok (.if_icmp .eq 5, 3) := by decide +kernel
theorem dX7_isFolded_58 : decode cX7_isFolded 58 = .ok (.iconst 0, 1) := by decide +kernel
theorem dX7_isFolded_59 : decode cX7_isFolded 59 = .ok (.ireturn, 1) := by decide +kernel
theorem dX7_isFolded_60 : decode cX7_isFolded 60 = .ok (.iinc 2 1, 3) := by decide +kernel
theorem dX7_isFolded_63 : decode cX7_isFolded 63 = .ok (.goto (-39), 3) := by decide +kernel
theorem dX7_isFolded_66 : decode cX7_isFolded 66 = .ok (.iinc 1 1, 3) := by decide +kernel
theorem dX7_isFolded_69 : decode cX7_isFolded 69 = .ok (.goto (-57), 3) := by decide +kernel
theorem dX7_isFolded_72 : decode cX7_isFolded 72 = .ok (.iconst 1, 1) := by decide +kernel
theorem dX7_isFolded_73 : decode cX7_isFolded 73 = .ok (.ireturn, 1) := by decide +kernel
set_option maxRecDepth 20000 in
theorem ggX8_init_X5_init : GoodIn wsX8_init wsX5_init := goodIn_r _ [43, 44, 2, 3, 14, 45, 126, 127, 128, 129] (by decide +kernel) (by decide +kernel)
set_option maxRecDepth 20000 in
theorem gX8_init_X5_init : GoodIn wsX8_init (wsX5_init) := ggX8_init_X5_init
set_option maxRecDepth 20000 in
theorem ggX8_init_X2_init : GoodIn wsX8_init wsX2_init := goodIn_r _ [48, 49, 2, 3, 14, 50, 130, 131] (by decide +kernel) (by decide +kernel)
set_option maxRecDepth 20000 in
theorem gX8_init_X2_init : GoodIn wsX8_init (wsX2_init) := ggX8_init_X2_init
set_option maxRecDepth 20000 in
theorem ggX8_init_X1_init : GoodIn wsX8_init wsX1_init := goodIn_r _ [53, 54, 2, 3, 14, 55, 132] (by decide +kernel) (by decide +kernel)
set_option maxRecDepth 20000 in
theorem gX8_init_X1_init : GoodIn wsX8_init (wsX1_init) := ggX8_init_X1_init
set_option maxRecDepth 20000 in
theorem ggX8_init_X7_init : GoodIn wsX8_init wsX7_init := goodIn_r _ [58, 59, 2, 3, 14, 60, 61, 62, 133, 134, 135, 136, 137, 138, 139] (by decide +kernel) (by decide +kernel)
set_option maxRecDepth 20000 in
theorem gX8_init_X7_init : GoodIn wsX8_init (wsX7_init) := ggX8_init_X7_init
set_option maxRecDepth 20000 in
theorem ggX8_init_X0_init : GoodIn wsX8_init wsX0_init := goodIn_r _ [65, 66, 2, 3, 14, 67, 68, 69, 140, 141, 142, 143, 144, 145, 146] (by decide +kernel) (by decide +kernel)
set_option maxRecDepth 20000 in
theorem gX8_init_X0_init : GoodIn wsX8_init (wsX0_init) := ggX8_init_X0_init
set_option maxRecDepth 20000 in
theorem ggX8_init_X6_init : GoodIn wsX8_init wsX6_init := goodIn_r _ [72, 73, 2, 3, 14, 74, 75, 76, 77, 78, 79, 80, 81, 82, 83, 84, 85, 31, 86, 87, 88, 89, 90, 91, 92, 147, 148, 149, 150, 151, 152, 153, 154, 155, 156, 157, 158, 159] (by decide +kernel) (by decide +kernel)
set_option maxRecDepth 20000 in
theorem gX8_init_X6_init : GoodIn wsX8_init (wsX6_init) := ggX8_init_X6_init
set_option maxRecDepth 20000 in
theorem ggX8_init_X4_init : GoodIn wsX8_init wsX4_init := goodIn_r _ [95, 96, 2, 3, 14, 97, 98, 99, 100, 160, 161, 162, 163, 164, 165] (by decide +kernel) (by decide +kernel)
set_option maxRecDepth 20000 in
theorem gX8_init_X4_init : GoodIn wsX8_init (wsX4_init) := ggX8_init_X4_init
set_option maxRecDepth 20000 in
theorem ggX8_init_X3_init : GoodIn wsX8_init wsX3_init := goodIn_r _ [103, 104, 2, 3, 14, 105, 106, 107, 108, 109, 76, 110, 111, 112, 166, 167, 168, 169, 170, 171, 172, 173, 174, 175, 176] (by decide +kernel) (by decide +kernel)
set_option maxRecDepth 20000 in
theorem gX8_init_X3_init : GoodIn wsX8_init (wsX3_init) := ggX8_init_X3_init
theorem dX8_init_0 : decode cX8_init 0 = .ok (.aload_n 0, 1) := by decide +kernel
theorem dX8_init_1 : decode cX8_init 1 = .ok (.invokespecial 3, 3) := by decide +kernel
theorem dX8_init_4 : decode cX8_init 4 = .ok (.aload_n 0, 1) := by decide +kernel
theorem dX8_init_5 : decode cX8_init 5 = .ok (.iconst 4, 1) := by decide +kernel
theorem dX8_init_6 : decode cX8_init 6 = .ok (.anewarray 9, 3) := by decide +kernel
theorem dX8_init_9 : decode cX8_init 9 = .ok (.putfield 11, 3) := by decide +kernel
theorem dX8_init_12 : decode cX8_init 12 = .ok (.iconst 0, 1) := by decide +kernel
theorem dX8_init_13 : decode cX8_init 13 = .ok (.istore_n 1, 1) := by decide +kernel
theorem dX8_init_14 : decode cX8_init 14 = .ok (.iload_n 1, 1) := by decide +kernel
theorem dX8_init_15 : decode cX8_init 15 = .ok (.iconst 4, 1) := by decide +kernel
theorem dX8_init_16 : decode cX8_init 16 = .ok (.if_icmp .ge 22, 3) := by decide +kernel
theorem dX8_init_19 : decode cX8_init 19 = .ok (.aload_n 0, 1) := by decide +kernel
theorem dX8_init_20 : decode cX8_init 20 = .ok (.getfield 11, 3) := by decide +kernel
theorem dX8_init_23 : decode cX8_init 23 = .ok (.iload_n 1, 1) := by decide +kernel
theorem dX8_init_24 : decode cX8_init 24 = .ok (.new 9, 3) := by decide +kernel
theorem dX8_init_27 : decode cX8_init 27 = .ok (.dup, 1) := by decide +kernel
theorem dX8_init_28 : decode cX8_init 28 = .ok (.invokespecial 15, 3) := by decide +kernel
theorem dX8_init_31 : decode cX8_init 31 = .ok (.aastore, 1) := by decide +kernel
theorem dX8_init_32 : decode cX8_init 32 = .ok (.iinc 1 1, 3) := by decide +kernel
theorem dX8_init_35 : decode cX8_init 35 = .ok (.goto (-21), 3) := by decide +kernel
theorem dX8_init_38 : decode cX8_init 38 = .ok (.aload_n 0, 1) := by decide +kernel
theorem dX8_init_39 : decode cX8_init 39 = .ok (.new 16, 3) := by decide +kernel
theorem dX8_init_42 : decode cX8_init 42 = .ok (.dup, 1) := by decide +kernel
theorem dX8_init_43 : decode cX8_init 43 = .ok (.invokespecial 18, 3) := by decide +kernel
theorem dX8_init_46 : decode cX8_init 46 = .ok (.putfield 19, 3) := by decide +kernel
theorem dX8_init_49 : decode cX8_init 49 = .ok (.aload_n 0, 1) := by decide +kernel
theorem dX8_init_50 : decode cX8_init 50 = .ok (.new 16, 3) := by decide +kernel
theorem dX8_init_53 : decode cX8_init 53 = .ok (.dup, 1) := by decide +kernel
theorem dX8_init_54 : decode cX8_init 54 = .ok (.invokespecial 18, 3) := by decide +kernel
theorem dX8_init_57 : decode cX8_init 57 = .ok (.putfield 23, 3) := by decide +kernel
theorem dX8_init_60 : decode cX8_init 60 = .ok (.aload_n 0, 1) := by decide +kernel
theorem dX8_init_61 : decode cX8_init 61 = .ok (.new 16, 3) := by decide +kernel
theorem dX8_init_64 : decode cX8_init 64 = .ok (.dup, 1) := by decide +kernel
theorem dX8_init_65 : decode cX8_init 65 = .ok (.invokespecial 18, 3) := by decide +kernel
theorem dX8_init_68 : decode cX8_init 68 = .ok (.putfield 26, 3) := by decide +kernel
theorem dX8_init_71 : decode cX8_init 71 = .ok (.aload_n 0, 1) := by decide +kernel
theorem dX8_init_72 : decode cX8_init 72 = .ok (.bipush 32, 2) := by decide +kernel
theorem dX8_init_74 : decode cX8_init 74 = .ok (.newarray .int, 2) := by decide +kernel
theorem dX8_init_76 : decode cX8_init 76 = .ok (.putfield 29, 3) := by decide +kernel
theorem dX8_init_79 : decode cX8_init 79 = .ok (.aload_n 0, 1) := by decide +kernel
theorem dX8_init_80 : decode cX8_init 80 = .ok (.bipush 32, 2) := by decide +kernel
theorem dX8_init_82 : decode cX8_init 82 = .ok (.newarray .int, 2) := by decide +kernel
theorem dX8_init_84 : decode cX8_init 84 = .ok (.putfield 33, 3) := by decide +kernel
theorem dX8_init_87 : decode cX8_init 87 = .ok (.aload_n 0, 1) := by decide +kernel
theorem dX8_init_88 : decode cX8_init 88 = .ok (.new 36, 3) := by decide +kernel
theorem dX8_init_91 : decode cX8_init 91 = .ok (.dup, 1) := by decide +kernel
theorem dX8_init_92 : decode cX8_init 92 = .ok (.invokespecial 38, 3) := by decide +kernel
theorem dX8_init_95 : decode cX8_init 95 = .ok (.putfield 39, 3) := by decide +kernel
theorem dX8_init_98 : decode cX8_init 98 = .ok (.aload_n 0, 1) := by decide +kernel
theorem dX8_init_99 : decode cX8_init 99 = .ok (.new 43, 3) := by decide +kernel
theorem dX8_init_102 : decode cX8_init 102 = .ok (.dup, 1) := by decide +kernel
theorem dX8_init_103 : decode cX8_init 103 = .ok (.invokespecial 45, 3) := by decide +kernel
theorem dX8_init_106 : decode cX8_init 106 = .ok (.putfield 46, 3) := by decide +kernel
theorem dX8_init_109 : decode cX8_init 109 = .ok (.aload_n 0, 1) := by decide +kernel
theorem dX8_init_110 : decode cX8_init 110 = .ok (.new 50, 3) := by decide +kernel
theorem dX8_init_113 : decode cX8_init 113 = .ok (.dup, 1) := by decide +kernel
theorem dX8_init_114 : decode cX8_init 114 = .ok (.invokespecial 52, 3) := by decide +kernel
theorem dX8_init_117 : decode cX8_init 117 = .ok (.putfield 53, 3) := by decide +kernel
theorem dX8_init_120 : decode cX8_init 120 = .ok (.aload_n 0, 1) := by decide +kernel
theorem dX8_init_121 : decode cX8_init 121 = .ok (.new 57, 3) := by decide +kernel
theorem dX8_init_124 : decode cX8_init 124 = .ok (.dup, 1) := by decide +kernel
theorem dX8_init_125 : decode cX8_init 125 = .ok (.invokespecial 59, 3) := by decide +kernel
theorem dX8_init_128 : decode cX8_init 128 = .ok (.putfield 60, 3) := by decide +kernel
theorem dX8_init_131 : decode cX8_init 131 = .ok (.aload_n 0, 1) := by decide +kernel
theorem dX8_init_132 : decode cX8_init 132 = .ok (.new 64, 3) := by decide +kernel
theorem dX8_init_135 : decode cX8_init 135 = .ok (.dup, 1) := by decide +kernel
theorem dX8_init_136 : decode cX8_init 136 = .ok (.invokespecial 66, 3) := by decide +kernel
theorem dX8_init_139 : decode cX8_init 139 = .ok (.putfield 67, 3) := by decide +kernel
theorem dX8_init_142 : decode cX8_init 142 = .ok (.aload_n 0, 1) := by decide +kernel
theorem dX8_init_143 : decode cX8_init 143 = .ok (.new 71, 3) := by decide +kernel
theorem dX8_init_146 : decode cX8_init 146 = .ok (.dup, 1) := by decide +kernel
theorem dX8_init_147 : decode cX8_init 147 = .ok (.invokespecial 73, 3) := by decide +kernel
theorem dX8_init_150 : decode cX8_init 150 = .ok (.putfield 74, 3) := by decide +kernel
theorem dX8_init_153 : decode cX8_init 153 = .ok (.return_, 1) := by decide +kernel
set_option maxRecDepth 20000 in
theorem ggX8_sheet_X8_isSheet : GoodIn wsX8_sheet wsX8_isSheet := goodIn_r _ [5] (by decide +kernel) (by decide +kernel)
set_option maxRecDepth 20000 in
theorem gX8_sheet_X8_isSheet : GoodIn wsX8_sheet (va_wsS RX8 78 yX8_isSheet wsX8_isSheet) := goodIn_app (goodIn_of _ (by decide +kernel)) ggX8_sheet_X8_isSheet
set_option maxRecDepth 20000 in
theorem ggX8_sheet_X5_lay : GoodIn wsX8_sheet wsX5_lay := goodIn_r _ [10, 11, 12, 13, 14, 15, 16, 17, 18, 32, 33, 34, 35] (by decide +kernel) (by decide +kernel)
set_option maxRecDepth 20000 in
theorem gX8_sheet_X5_lay : GoodIn wsX8_sheet (wsV RX8 82 RX5 yX5_lay wsX5_lay) := goodIn_app (goodIn_of _ (by decide +kernel)) ggX8_sheet_X5_lay
theorem dX8_sheet_0 : decode cX8_sheet 0 = .ok (.iload_n 1, 1) := by decide +kernel
theorem dX8_sheet_1 : decode cX8_sheet 1 = .ok (.invokestatic 78, 3) := by decide +kernel
theorem dX8_sheet_4 : decode cX8_sheet 4 = .ok (.ifCond .eq 12, 3) := by decide +kernel
theorem dX8_sheet_7 : decode cX8_sheet 7 = .ok (.iload_n 2, 1) := by decide +kernel
theorem dX8_sheet_8 : decode cX8_sheet 8 = .ok (.ifCond .lt 8, 3) := by decide +kernel
theorem dX8_sheet_11 : decode cX8_sheet 11 = .ok (.iload_n 2, 1) := by decide +kernel
theorem dX8_sheet_12 : decode cX8_sheet 12 = .ok (.iconst 2, 1) := by decide +kernel
theorem dX8_sheet_13 : decode cX8_sheet 13 = .ok (.if_icmp .le 5, 3) := by decide +kernel
theorem dX8_sheet_16 : decode cX8_sheet 16 = .ok (.iconst (-1), 1) := by decide +kernel
theorem dX8_sheet_17 : decode cX8_sheet 17 = .ok (.ireturn, 1) := by decide +kernel
theorem dX8_sheet_18 : decode cX8_sheet 18 = .ok (.iload_n 3, 1) := by decide +kernel
theorem dX8_sheet_19 : decode cX8_sheet 19 = .ok (.ifCond .ge 6, 3) := by decide +kernel
theorem dX8_sheet_22 : decode cX8_sheet 22 = .ok (.bipush (-4), 2) := by decide +kernel
theorem dX8_sheet_24 : decode cX8_sheet 24 = .ok (.ireturn, 1) := by decide +kernel
theorem dX8_sheet_25 : decode cX8_sheet 25 = .ok (.iload_n 3, 1) := by decide +kernel
theorem dX8_sheet_26 : decode cX8_sheet 26 = .ok (.bipush 60, 2) := by decide +kernel
theorem dX8_sheet_28 : decode cX8_sheet 28 = .ok (.if_icmp .le 5, 3) := by decide +kernel
theorem dX8_sheet_31 : decode cX8_sheet 31 = .ok (.iconst (-1), 1) := by decide +kernel
theorem dX8_sheet_32 : decode cX8_sheet 32 = .ok (.ireturn, 1) := by decide +kernel
theorem dX8_sheet_33 : decode cX8_sheet 33 = .ok (.aload_n 0, 1) := by decide +kernel
theorem dX8_sheet_34 : decode cX8_sheet 34 = .ok (.getfield 11, 3) := by decide +kernel
theorem dX8_sheet_37 : decode cX8_sheet 37 = .ok (.iload_n 1, 1) := by decide +kernel
theorem dX8_sheet_38 : decode cX8_sheet 38 = .ok (.aaload, 1) := by decide +kernel
theorem dX8_sheet_39 : decode cX8_sheet 39 = .ok (.iload_n 2, 1) := by decide +kernel
theorem dX8_sheet_40 : decode cX8_sheet 40 = .ok (.iload_n 3, 1) := by decide +kernel
theorem dX8_sheet_41 : decode cX8_sheet 41 = .ok (.invokevirtual 82, 3) := by decide +kernel
theorem dX8_sheet_44 : decode cX8_sheet 44 = .ok (.iconst 1, 1) := by decide +kernel
theorem dX8_sheet_45 : decode cX8_sheet 45 = .ok (.ireturn, 1) := by decide +kernel
set_option maxRecDepth 20000 in
theorem ggX8_cell_X8_isSheet : GoodIn wsX8_cell wsX8_isSheet := goodIn_r _ [6] (by decide +kernel) (by decide +kernel)
set_option maxRecDepth 20000 in
theorem gX8_cell_X8_isSheet : GoodIn wsX8_cell (va_wsS RX8 78 yX8_isSheet wsX8_isSheet) := goodIn_app (goodIn_of _ (by decide +kernel)) ggX8_cell_X8_isSheet
set_option maxRecDepth 20000 in
theorem ggX8_cell_X5_has : GoodIn wsX8_cell wsX5_has := goodIn_r _ [11, 12, 32, 33, 34, 35] (by decide +kernel) (by decide +kernel)
set_option maxRecDepth 20000 in
theorem gX8_cell_X5_has : GoodIn wsX8_cell (wsV RX8 90 RX5 yX5_has wsX5_has) := goodIn_app (goodIn_of _ (by decide +kernel)) ggX8_cell_X5_has
set_option maxRecDepth 20000 in
theorem ggX8_cell_X5_write : GoodIn wsX8_cell wsX5_write := goodIn_r _ [16, 17, 18, 32, 33, 34, 35] (by decide +kernel) (by decide +kernel)
set_option maxRecDepth 20000 in
theorem gX8_cell_X5_write : GoodIn wsX8_cell (wsV RX8 93 RX5 yX5_write wsX5_write) := goodIn_app (goodIn_of _ (by decide +kernel)) ggX8_cell_X5_write
theorem dX8_cell_0 : decode cX8_cell 0 = .ok (.iload_n 1, 1) := by decide +kernel
theorem dX8_cell_1 : decode cX8_cell 1 = .ok (.invokestatic 78, 3) := by decide +kernel
theorem dX8_cell_4 : decode cX8_cell 4 = .ok (.ifCond .ne 5, 3) := by decide +kernel
theorem dX8_cell_7 : decode cX8_cell 7 = .ok (.iconst (-1), 1) := by decide +kernel
theorem dX8_cell_8 : decode cX8_cell 8 = .ok (.ireturn, 1) := by decide +kernel
theorem dX8_cell_9 : decode cX8_cell 9 = .ok (.aload_n 0, 1) := by decide +kernel
theorem dX8_cell_10 : decode cX8_cell 10 = .ok (.getfield 11, 3) := by decide +kernel
theorem dX8_cell_13 : decode cX8_cell 13 = .ok (.iload_n 1, 1) := by decide +kernel
theorem dX8_cell_14 : decode cX8_cell 14 = .ok (.aaload, 1) := by decide +kernel
theorem dX8_cell_15 : decode cX8_cell 15 = .ok (.getfield 86, 3) := by decide +kernel
theorem dX8_cell_18 : decode cX8_cell 18 = .ok (.ifCond .ne 6, 3) := by decide +kernel
theorem dX8_cell_21 : decode cX8_cell 21 = .ok (.bipush (-3), 2) := by decide +kernel
theorem dX8_cell_23 : decode cX8_cell 23 = .ok (.ireturn, 1) := by decide +kernel
theorem dX8_cell_24 : decode cX8_cell 24 = .ok (.aload_n 0, 1) := by decide +kernel
theorem dX8_cell_25 : decode cX8_cell 25 = .ok (.getfield 11, 3) := by decide +kernel
theorem dX8_cell_28 : decode cX8_cell 28 = .ok (.iload_n 1, 1) := by decide +kernel
theorem dX8_cell_29 : decode cX8_cell 29 = .ok (.aaload, 1) := by decide +kernel
theorem dX8_cell_30 : decode cX8_cell 30 = .ok (.iload_n 2, 1) := by decide +kernel
theorem dX8_cell_31 : decode cX8_cell 31 = .ok (.invokevirtual 90, 3) := by decide +kernel
theorem dX8_cell_34 : decode cX8_cell 34 = .ok (.ifCond .ne 5, 3) := by decide +kernel
theorem dX8_cell_37 : decode cX8_cell 37 = .ok (.iconst (-1), 1) := by decide +kernel
theorem dX8_cell_38 : decode cX8_cell 38 = .ok (.ireturn, 1) := by decide +kernel
theorem dX8_cell_39 : decode cX8_cell 39 = .ok (.aload_n 0, 1) := by decide +kernel
theorem dX8_cell_40 : decode cX8_cell 40 = .ok (.getfield 11, 3) := by decide +kernel
theorem dX8_cell_43 : decode cX8_cell 43 = .ok (.iload_n 1, 1) := by decide +kernel
theorem dX8_cell_44 : decode cX8_cell 44 = .ok (.aaload, 1) := by decide +kernel
theorem dX8_cell_45 : decode cX8_cell 45 = .ok (.iload_n 2, 1) := by decide +kernel
theorem dX8_cell_46 : decode cX8_cell 46 = .ok (.iload_n 3, 1) := by decide +kernel
theorem dX8_cell_47 : decode cX8_cell 47 = .ok (.invokevirtual 93, 3) := by decide +kernel
theorem dX8_cell_50 : decode cX8_cell 50 = .ok (.iconst 1, 1) := by decide +kernel
theorem dX8_cell_51 : decode cX8_cell 51 = .ok (.ireturn, 1) := by decide +kernel
set_option maxRecDepth 20000 in
theorem ggX8_lose_X8_isSheet : GoodIn wsX8_lose wsX8_isSheet := goodIn_r _ [6] (by decide +kernel) (by decide +kernel)
set_option maxRecDepth 20000 in
theorem gX8_lose_X8_isSheet : GoodIn wsX8_lose (va_wsS RX8 78 yX8_isSheet wsX8_isSheet) := goodIn_app (goodIn_of _ (by decide +kernel)) ggX8_lose_X8_isSheet
theorem dX8_lose_0 : decode cX8_lose 0 = .ok (.iload_n 1, 1) := by decide +kernel
theorem dX8_lose_1 : decode cX8_lose 1 = .ok (.invokestatic 78, 3) := by decide +kernel
theorem dX8_lose_4 : decode cX8_lose 4 = .ok (.ifCond .ne 5, 3) := by decide +kernel
theorem dX8_lose_7 : decode cX8_lose 7 = .ok (.iconst (-1), 1) := by decide +kernel
theorem dX8_lose_8 : decode cX8_lose 8 = .ok (.ireturn, 1) := by decide +kernel
theorem dX8_lose_9 : decode cX8_lose 9 = .ok (.aload_n 0, 1) := by decide +kernel
theorem dX8_lose_10 : decode cX8_lose 10 = .ok (.getfield 11, 3) := by decide +kernel
theorem dX8_lose_13 : decode cX8_lose 13 = .ok (.iload_n 1, 1) := by decide +kernel
theorem dX8_lose_14 : decode cX8_lose 14 = .ok (.aaload, 1) := by decide +kernel
theorem dX8_lose_15 : decode cX8_lose 15 = .ok (.getfield 86, 3) := by decide +kernel
theorem dX8_lose_18 : decode cX8_lose 18 = .ok (.ifCond .ne 6, 3) := by decide +kernel
theorem dX8_lose_21 : decode cX8_lose 21 = .ok (.bipush (-3), 2) := by decide +kernel
theorem dX8_lose_23 : decode cX8_lose 23 = .ok (.ireturn, 1) := by decide +kernel
theorem dX8_lose_24 : decode cX8_lose 24 = .ok (.aload_n 0, 1) := by decide +kernel
theorem dX8_lose_25 : decode cX8_lose 25 = .ok (.getfield 11, 3) := by decide +kernel
theorem dX8_lose_28 : decode cX8_lose 28 = .ok (.iload_n 1, 1) := by decide +kernel
theorem dX8_lose_29 : decode cX8_lose 29 = .ok (.aaload, 1) := by decide +kernel
theorem dX8_lose_30 : decode cX8_lose 30 = .ok (.iconst 0, 1) := by decide +kernel
theorem dX8_lose_31 : decode cX8_lose 31 = .ok (.putfield 86, 3) := by decide +kernel
theorem dX8_lose_34 : decode cX8_lose 34 = .ok (.iconst 1, 1) := by decide +kernel
theorem dX8_lose_35 : decode cX8_lose 35 = .ok (.ireturn, 1) := by decide +kernel
set_option maxRecDepth 20000 in
theorem ggX8_net_X2_empty : GoodIn wsX8_net wsX2_empty := goodIn_r _ [6, 7, 8, 9, 10, 11, 12, 39, 40] (by decide +kernel) (by decide +kernel)
set_option maxRecDepth 20000 in
theorem gX8_net_X2_empty : GoodIn wsX8_net (wsV RX8 96 RX2 yX2_empty wsX2_empty) := goodIn_app (goodIn_of _ (by decide +kernel)) ggX8_net_X2_empty
set_option maxRecDepth 20000 in
theorem ggX8_net_X8_forget : GoodIn wsX8_net wsX8_forget := goodIn_r _ [17, 18, 19, 20, 21, 22, 23, 24, 25, 26, 27, 28, 29, 30, 31, 32, 33, 34, 35, 36, 37, 38, 41, 42, 43, 44, 45, 46, 47, 48, 49, 50, 51, 52, 53, 54, 55, 56, 57, 58, 59, 60, 61, 62, 63, 64, 65, 66, 67, 68, 69, 70, 71] (by decide +kernel) (by decide +kernel)
set_option maxRecDepth 20000 in
theorem gX8_net_X8_forget : GoodIn wsX8_net (wsV RX8 100 RX8 yX8_forget wsX8_forget) := goodIn_app (goodIn_of _ (by decide +kernel)) ggX8_net_X8_forget
theorem dX8_net_0 : decode cX8_net 0 = .ok (.iload_n 1, 1) := by decide +kernel
theorem dX8_net_1 : decode cX8_net 1 = .ok (.ifCond .lt 9, 3) := by decide +kernel
theorem dX8_net_4 : decode cX8_net 4 = .ok (.iload_n 1, 1) := by decide +kernel
theorem dX8_net_5 : decode cX8_net 5 = .ok (.bipush 32, 2) := by decide +kernel
theorem dX8_net_7 : decode cX8_net 7 = .ok (.if_icmp .le 5, 3) := by decide +kernel
theorem dX8_net_10 : decode cX8_net 10 = .ok (.iconst (-1), 1) := by decide +kernel
theorem dX8_net_11 : decode cX8_net 11 = .ok (.ireturn, 1) := by decide +kernel
theorem dX8_net_12 : decode cX8_net 12 = .ok (.aload_n 0, 1) := by decide +kernel
theorem dX8_net_13 : decode cX8_net 13 = .ok (.getfield 19, 3) := by decide +kernel
theorem dX8_net_16 : decode cX8_net 16 = .ok (.iload_n 1, 1) := by decide +kernel
theorem dX8_net_17 : decode cX8_net 17 = .ok (.invokevirtual 96, 3) := by decide +kernel
theorem dX8_net_20 : decode cX8_net 20 = .ok (.aload_n 0, 1) := by decide +kernel
theorem dX8_net_21 : decode cX8_net 21 = .ok (.invokevirtual 100, 3) := by decide +kernel
theorem dX8_net_24 : decode cX8_net 24 = .ok (.iconst 1, 1) := by decide +kernel
theorem dX8_net_25 : decode cX8_net 25 = .ok (.ireturn, 1) := by decide +kernel
set_option maxRecDepth 20000 in
theorem ggX8_road_X2_mayJoin : GoodIn wsX8_road wsX2_mayJoin := goodIn_r _ [6, 7, 8, 9, 5, 10, 11, 54, 55] (by decide +kernel) (by decide +kernel)
set_option maxRecDepth 20000 in
theorem gX8_road_X2_mayJoin : GoodIn wsX8_road (wsV RX8 103 RX2 yX2_mayJoin wsX2_mayJoin) := goodIn_app (goodIn_of _ (by decide +kernel)) ggX8_road_X2_mayJoin
set_option maxRecDepth 20000 in
theorem ggX8_road_X2_areJoined : GoodIn wsX8_road wsX2_areJoined := goodIn_r _ [15, 16, 7, 8, 9, 5, 10, 11, 17, 18, 19, 54, 55] (by decide +kernel) (by decide +kernel)
set_option maxRecDepth 20000 in
theorem gX8_road_X2_areJoined : GoodIn wsX8_road (wsV RX8 107 RX2 yX2_areJoined wsX2_areJoined) := goodIn_app (goodIn_of _ (by decide +kernel)) ggX8_road_X2_areJoined
set_option maxRecDepth 20000 in
theorem ggX8_road_X2_join : GoodIn wsX8_road wsX2_join := goodIn_r _ [23, 16, 24, 3, 4, 5, 6, 7, 8, 9, 10, 11, 54, 55] (by decide +kernel) (by decide +kernel)
set_option maxRecDepth 20000 in
theorem gX8_road_X2_join : GoodIn wsX8_road (wsV RX8 110 RX2 yX2_join wsX2_join) := goodIn_app (goodIn_of _ (by decide +kernel)) ggX8_road_X2_join
set_option maxRecDepth 20000 in
theorem ggX8_road_X2_part : GoodIn wsX8_road wsX2_part := goodIn_r _ [28, 16, 24, 3, 4, 5, 6, 7, 8, 9, 10, 11, 54, 55] (by decide +kernel) (by decide +kernel)
set_option maxRecDepth 20000 in
theorem gX8_road_X2_part : GoodIn wsX8_road (wsV RX8 113 RX2 yX2_part wsX2_part) := goodIn_app (goodIn_of _ (by decide +kernel)) ggX8_road_X2_part
set_option maxRecDepth 20000 in
theorem ggX8_road_X8_forget : GoodIn wsX8_road wsX8_forget := goodIn_r _ [32, 33, 34, 35, 36, 37, 38, 39, 40, 41, 42, 43, 44, 45, 46, 47, 48, 49, 50, 51, 52, 53, 56, 57, 58, 59, 60, 61, 62, 63, 64, 65, 66, 67, 68, 69, 70, 71, 72, 73, 74, 75, 76, 77, 78, 79, 80, 81, 82, 83, 84, 85, 86] (by decide +kernel) (by decide +kernel)
set_option maxRecDepth 20000 in
theorem gX8_road_X8_forget : GoodIn wsX8_road (wsV RX8 100 RX8 yX8_forget wsX8_forget) := goodIn_app (goodIn_of _ (by decide +kernel)) ggX8_road_X8_forget
theorem dX8_road_0 : decode cX8_road 0 = .ok (.aload_n 0, 1) := by decide +kernel
theorem dX8_road_1 : decode cX8_road 1 = .ok (.getfield 19, 3) := by decide +kernel
theorem dX8_road_4 : decode cX8_road 4 = .ok (.iload_n 1, 1) := by decide +kernel
theorem dX8_road_5 : decode cX8_road 5 = .ok (.iload_n 2, 1) := by decide +kernel
theorem dX8_road_6 : decode cX8_road 6 = .ok (.invokevirtual 103, 3) := by decide +kernel
theorem dX8_road_9 : decode cX8_road 9 = .ok (.ifCond .ne 5, 3) := by decide +kernel
theorem dX8_road_12 : decode cX8_road 12 = .ok (.iconst (-1), 1) := by decide +kernel
theorem dX8_road_13 : decode cX8_road 13 = .ok (.ireturn, 1) := by decide +kernel
theorem dX8_road_14 : decode cX8_road 14 = .ok (.aload_n 0, 1) := by decide +kernel
theorem dX8_road_15 : decode cX8_road 15 = .ok (.getfield 19, 3) := by decide +kernel
theorem dX8_road_18 : decode cX8_road 18 = .ok (.iload_n 1, 1) := by decide +kernel
theorem dX8_road_19 : decode cX8_road 19 = .ok (.iload_n 2, 1) := by decide +kernel
theorem dX8_road_20 : decode cX8_road 20 = .ok (.invokevirtual 107, 3) := by decide +kernel
theorem dX8_road_23 : decode cX8_road 23 = .ok (.iload_n 3, 1) := by decide +kernel
theorem dX8_road_24 : decode cX8_road 24 = .ok (.if_icmp .ne 5, 3) := by decide +kernel
theorem dX8_road_27 : decode cX8_road 27 = .ok (.iconst 0, 1) := by decide +kernel
theorem dX8_road_28 : decode cX8_road 28 = .ok (.ireturn, 1) := by decide +kernel
theorem dX8_road_29 : decode cX8_road 29 = .ok (.iload_n 3, 1) := by decide +kernel
theorem dX8_road_30 : decode cX8_road 30 = .ok (.ifCond .eq 15, 3) := by decide +kernel
theorem dX8_road_33 : decode cX8_road 33 = .ok (.aload_n 0, 1) := by decide +kernel
theorem dX8_road_34 : decode cX8_road 34 = .ok (.getfield 19, 3) := by decide +kernel
theorem dX8_road_37 : decode cX8_road 37 = .ok (.iload_n 1, 1) := by decide +kernel
theorem dX8_road_38 : decode cX8_road 38 = .ok (.iload_n 2, 1) := by decide +kernel
theorem dX8_road_39 : decode cX8_road 39 = .ok (.invokevirtual 110, 3) := by decide +kernel
theorem dX8_road_42 : decode cX8_road 42 = .ok (.goto 12, 3) := by decide +kernel
theorem dX8_road_45 : decode cX8_road 45 = .ok (.aload_n 0, 1) := by decide +kernel
theorem dX8_road_46 : decode cX8_road 46 = .ok (.getfield 19, 3) := by decide +kernel
theorem dX8_road_49 : decode cX8_road 49 = .ok (.iload_n 1, 1) := by decide +kernel
theorem dX8_road_50 : decode cX8_road 50 = .ok (.iload_n 2, 1) := by decide +kernel
theorem dX8_road_51 : decode cX8_road 51 = .ok (.invokevirtual 113, 3) := by decide +kernel
theorem dX8_road_54 : decode cX8_road 54 = .ok (.aload_n 0, 1) := by decide +kernel
theorem dX8_road_55 : decode cX8_road 55 = .ok (.invokevirtual 100, 3) := by decide +kernel
theorem dX8_road_58 : decode cX8_road 58 = .ok (.iconst 1, 1) := by decide +kernel
theorem dX8_road_59 : decode cX8_road 59 = .ok (.ireturn, 1) := by decide +kernel
set_option maxRecDepth 20000 in
theorem ggX8_load_X8_isSheet : GoodIn wsX8_load wsX8_isSheet := goodIn_r _ [7] (by decide +kernel) (by decide +kernel)
set_option maxRecDepth 20000 in
theorem gX8_load_X8_isSheet : GoodIn wsX8_load (va_wsS RX8 78 yX8_isSheet wsX8_isSheet) := goodIn_app (goodIn_of _ (by decide +kernel)) ggX8_load_X8_isSheet
set_option maxRecDepth 20000 in
theorem ggX8_load_X8_mayLoad : GoodIn wsX8_load wsX8_mayLoad := goodIn_r _ [11, 12, 13, 3, 14, 15, 16, 17, 18, 19, 20, 21, 22, 23, 24, 25, 26, 27, 28, 29, 30, 31, 32, 33, 34, 81, 82, 83, 84, 68, 69, 70, 71, 72, 73, 74, 75, 76, 77, 78, 79, 80, 85, 86] (by decide +kernel) (by decide +kernel)
set_option maxRecDepth 20000 in
theorem gX8_load_X8_mayLoad : GoodIn wsX8_load (wsV RX8 116 RX8 yX8_mayLoad wsX8_mayLoad) := goodIn_app (goodIn_of _ (by decide +kernel)) ggX8_load_X8_mayLoad
set_option maxRecDepth 20000 in
theorem ggX8_load_X2_roads : GoodIn wsX8_load wsX2_roads := goodIn_r _ [38, 34, 39, 40, 41, 28, 42, 43, 44, 45, 46, 47, 48, 49, 50, 85, 86] (by decide +kernel) (by decide +kernel)
set_option maxRecDepth 20000 in
theorem gX8_load_X2_roads : GoodIn wsX8_load (wsV RX8 120 RX2 yX2_roads wsX2_roads) := goodIn_app (goodIn_of _ (by decide +kernel)) ggX8_load_X2_roads
set_option maxRecDepth 20000 in
theorem ggX8_load_X5_read : GoodIn wsX8_load wsX5_read := goodIn_r _ [18, 19, 20, 21, 22, 17, 23, 24, 81, 82, 83, 84] (by decide +kernel) (by decide +kernel)
set_option maxRecDepth 20000 in
theorem gX8_load_X5_read : GoodIn wsX8_load (wsV RX8 124 RX5 yX5_read wsX5_read) := goodIn_app (goodIn_of _ (by decide +kernel)) ggX8_load_X5_read
set_option maxRecDepth 20000 in
theorem ggX8_load_X2_join : GoodIn wsX8_load wsX2_join := goodIn_r _ [54, 43, 55, 26, 27, 28, 29, 30, 31, 32, 33, 34, 85, 86] (by decide +kernel) (by decide +kernel)
set_option maxRecDepth 20000 in
theorem gX8_load_X2_join : GoodIn wsX8_load (wsV RX8 110 RX2 yX2_join wsX2_join) := goodIn_app (goodIn_of _ (by decide +kernel)) ggX8_load_X2_join
set_option maxRecDepth 20000 in
theorem ggX8_load_X8_forget : GoodIn wsX8_load wsX8_forget := goodIn_r _ [59, 60, 61, 62, 63, 64, 65, 66, 67, 68, 69, 70, 71, 72, 73, 74, 75, 76, 77, 78, 79, 80, 87, 88, 89, 90, 91, 92, 93, 94, 95, 96, 97, 98, 99, 100, 101, 102, 103, 104, 105, 106, 107, 108, 109, 110, 111, 112, 113, 114, 115, 116, 117] (by decide +kernel) (by decide +kernel)
set_option maxRecDepth 20000 in
theorem gX8_load_X8_forget : GoodIn wsX8_load (wsV RX8 100 RX8 yX8_forget wsX8_forget) := goodIn_app (goodIn_of _ (by decide +kernel)) ggX8_load_X8_forget
theorem dX8_load_0 : decode cX8_load 0 = .ok (.iload_n 1, 1) := by decide +kernel
theorem dX8_load_1 : decode cX8_load 1 = .ok (.invokestatic 78, 3) := by decide +kernel
theorem dX8_load_4 : decode cX8_load 4 = .ok (.ifCond .ne 5, 3) := by decide +kernel
theorem dX8_load_7 : decode cX8_load 7 = .ok (.iconst (-1), 1) := by decide +kernel
theorem dX8_load_8 : decode cX8_load 8 = .ok (.ireturn, 1) := by decide +kernel
theorem dX8_load_9 : decode cX8_load 9 = .ok (.aload_n 0, 1) := by decide +kernel
theorem dX8_load_10 : decode cX8_load 10 = .ok (.getfield 11, 3) := by decide +kernel
theorem dX8_load_13 : decode cX8_load 13 = .ok (.iload_n 1, 1) := by decide +kernel
theorem dX8_load_14 : decode cX8_load 14 = .ok (.aaload, 1) := by decide +kernel
theorem dX8_load_15 : decode cX8_load 15 = .ok (.getfield 86, 3) := by decide +kernel
theorem dX8_load_18 : decode cX8_load 18 = .ok (.ifCond .ne 6, 3) := by decide +kernel
theorem dX8_load_21 : decode cX8_load 21 = .ok (.bipush (-3), 2) := by decide +kernel
theorem dX8_load_23 : decode cX8_load 23 = .ok (.ireturn, 1) := by decide +kernel
theorem dX8_load_24 : decode cX8_load 24 = .ok (.aload_n 0, 1) := by decide +kernel
theorem dX8_load_25 : decode cX8_load 25 = .ok (.aload_n 0, 1) := by decide +kernel
theorem dX8_load_26 : decode cX8_load 26 = .ok (.getfield 11, 3) := by decide +kernel
theorem dX8_load_29 : decode cX8_load 29 = .ok (.iload_n 1, 1) := by decide +kernel
theorem dX8_load_30 : decode cX8_load 30 = .ok (.aaload, 1) := by decide +kernel
theorem dX8_load_31 : decode cX8_load 31 = .ok (.iload_n 2, 1) := by decide +kernel
theorem dX8_load_32 : decode cX8_load 32 = .ok (.iload_n 3, 1) := by decide +kernel
theorem dX8_load_33 : decode cX8_load 33 = .ok (.invokevirtual 116, 3) := by decide +kernel
theorem dX8_load_36 : decode cX8_load 36 = .ok (.ifCond .ne 5, 3) := by decide +kernel
theorem dX8_load_39 : decode cX8_load 39 = .ok (.iconst (-1), 1) := by decide +kernel
theorem dX8_load_40 : decode cX8_load 40 = .ok (.ireturn, 1) := by decide +kernel
theorem dX8_load_41 : decode cX8_load 41 = .ok (.aload_n 0, 1) := by decide +kernel
theorem dX8_load_42 : decode cX8_load 42 = .ok (.getfield 19, 3) := by decide +kernel
theorem dX8_load_45 : decode cX8_load 45 = .ok (.invokevirtual 120, 3) := by decide +kernel
theorem dX8_load_48 : decode cX8_load 48 = .ok (.istore 4, 2) := by decide +kernel
theorem dX8_load_50 : decode cX8_load 50 = .ok (.iconst 0, 1) := by decide +kernel
theorem dX8_load_51 : decode cX8_load 51 = .ok (.istore 5, 2) := by decide +kernel
theorem dX8_load_53 : decode cX8_load 53 = .ok (.iload 5, 2) := by decide +kernel
theorem dX8_load_55 : decode cX8_load 55 = .ok (.iload_n 3, 1) := by decide +kernel
theorem dX8_load_56 : decode cX8_load 56 = .ok (.if_icmp .ge 48, 3) := by decide +kernel
theorem dX8_load_59 : decode cX8_load 59 = .ok (.iload_n 2, 1) := by decide +kernel
theorem dX8_load_60 : decode cX8_load 60 = .ok (.iconst 2, 1) := by decide +kernel
theorem dX8_load_61 : decode cX8_load 61 = .ok (.iload 5, 2) := by decide +kernel
theorem dX8_load_63 : decode cX8_load 63 = .ok (.imul, 1) := by decide +kernel
theorem dX8_load_64 : decode cX8_load 64 = .ok (.iadd, 1) := by decide +kernel
theorem dX8_load_65 : decode cX8_load 65 = .ok (.istore 6, 2) := by decide +kernel
theorem dX8_load_67 : decode cX8_load 67 = .ok (.aload_n 0, 1) := by decide +kernel
theorem dX8_load_68 : decode cX8_load 68 = .ok (.getfield 19, 3) := by decide +kernel
theorem dX8_load_71 : decode cX8_load 71 = .ok (.aload_n 0, 1) := by decide +kernel
theorem dX8_load_72 : decode cX8_load 72 = .ok (.getfield 11, 3) := by decide +kernel
theorem dX8_load_75 : decode cX8_load 75 = .ok (.iload_n 1, 1) := by decide +kernel
theorem dX8_load_76 : decode cX8_load 76 = .ok (.aaload, 1) := by decide +kernel
theorem dX8_load_77 : decode cX8_load 77 = .ok (.iload 6, 2) := by decide +kernel
theorem dX8_load_79 : decode cX8_load 79 = .ok (.invokevirtual 124, 3) := by decide +kernel
theorem dX8_load_82 : decode cX8_load 82 = .ok (.aload_n 0, 1) := by decide +kernel
theorem dX8_load_83 : decode cX8_load 83 = .ok (.getfield 11, 3) := by decide +kernel
theorem dX8_load_86 : decode cX8_load 86 = .ok (.iload_n 1, 1) := by decide +kernel
theorem dX8_load_87 : decode cX8_load 87 = .ok (.aaload, 1) := by decide +kernel
theorem dX8_load_88 : decode cX8_load 88 = .ok (.iload 6, 2) := by decide +kernel
theorem dX8_load_90 : decode cX8_load 90 = .ok (.iconst 1, 1) := by decide +kernel
theorem dX8_load_91 : decode cX8_load 91 = .ok (.iadd, 1) := by decide +kernel
theorem dX8_load_92 : decode cX8_load 92 = .ok (.invokevirtual 124, 3) := by decide +kernel
theorem dX8_load_95 : decode cX8_load 95 = .ok (.invokevirtual 110, 3) := by decide +kernel
theorem dX8_load_98 : decode cX8_load 98 = .ok (.iinc 5 1, 3) := by decide +kernel
theorem dX8_load_101 : decode cX8_load 101 = .ok (.goto (-48), 3) := by decide +kernel
theorem dX8_load_104 : decode cX8_load 104 = .ok (.aload_n 0, 1) := by decide +kernel
theorem dX8_load_105 : decode cX8_load 105 = .ok (.invokevirtual 100, 3) := by decide +kernel
theorem dX8_load_108 : decode cX8_load 108 = .ok (.aload_n 0, 1) := by decide +kernel
theorem dX8_load_109 : decode cX8_load 109 = .ok (.getfield 19, 3) := by decide +kernel
theorem dX8_load_112 : decode cX8_load 112 = .ok (.invokevirtual 120, 3) := by decide +kernel
theorem dX8_load_115 : decode cX8_load 115 = .ok (.iload 4, 2) := by decide +kernel
theorem dX8_load_117 : decode cX8_load 117 = .ok (.isub, 1) := by decide +kernel
theorem dX8_load_118 : decode cX8_load 118 = .ok (.ireturn, 1) := by decide +kernel
set_option maxRecDepth 20000 in
theorem ggX8_joined_X2_areJoined : GoodIn wsX8_joined wsX2_areJoined := goodIn_r _ [6, 7, 8, 9, 10, 5, 11, 12, 13, 14, 15, 29, 30] (by decide +kernel) (by decide +kernel)
set_option maxRecDepth 20000 in
theorem gX8_joined_X2_areJoined : GoodIn wsX8_joined (wsV RX8 107 RX2 yX2_areJoined wsX2_areJoined) := goodIn_app (goodIn_of _ (by decide +kernel)) ggX8_joined_X2_areJoined
theorem dX8_joined_0 : decode cX8_joined 0 = .ok (.aload_n 0, 1) := by decide +kernel
theorem dX8_joined_1 : decode cX8_joined 1 = .ok (.getfield 19, 3) := by decide +kernel
theorem dX8_joined_4 : decode cX8_joined 4 = .ok (.iload_n 1, 1) := by decide +kernel
theorem dX8_joined_5 : decode cX8_joined 5 = .ok (.iload_n 2, 1) := by decide +kernel
theorem dX8_joined_6 : decode cX8_joined 6 = .ok (.invokevirtual 107, 3) := by decide +kernel
theorem dX8_joined_9 : decode cX8_joined 9 = .ok (.ireturn, 1) := by decide +kernel
set_option maxRecDepth 20000 in
theorem ggX8_build_X1_mayBe : GoodIn wsX8_build wsX1_mayBe := goodIn_r _ [7] (by decide +kernel) (by decide +kernel)
set_option maxRecDepth 20000 in
theorem gX8_build_X1_mayBe : GoodIn wsX8_build (va_wsS RX8 128 yX1_mayBe wsX1_mayBe) := goodIn_app (goodIn_of _ (by decide +kernel)) ggX8_build_X1_mayBe
set_option maxRecDepth 20000 in
theorem ggX8_build_X1_size : GoodIn wsX8_build wsX1_size := goodIn_r _ [10, 11, 12, 6, 13, 14, 15, 16, 17] (by decide +kernel) (by decide +kernel)
set_option maxRecDepth 20000 in
theorem gX8_build_X1_size : GoodIn wsX8_build (va_wsS RX8 132 yX1_size wsX1_size) := goodIn_app (goodIn_of _ (by decide +kernel)) ggX8_build_X1_size
set_option maxRecDepth 20000 in
theorem ggX8_build_X2_empty : GoodIn wsX8_build wsX2_empty := goodIn_r _ [22, 23, 24, 25, 26, 27, 28, 122, 123] (by decide +kernel) (by decide +kernel)
set_option maxRecDepth 20000 in
theorem gX8_build_X2_empty : GoodIn wsX8_build (wsV RX8 96 RX2 yX2_empty wsX2_empty) := goodIn_app (goodIn_of _ (by decide +kernel)) ggX8_build_X2_empty
set_option maxRecDepth 20000 in
theorem ggX8_build_X1_lay : GoodIn wsX8_build wsX1_lay := goodIn_r _ [32, 33, 34, 35, 6, 36, 37, 38, 39, 40, 41, 42, 21, 43, 24, 44, 45, 46, 47, 48, 49, 50, 51, 23, 52, 53, 54, 55, 56, 57, 58, 59, 60, 61, 62, 63, 64, 65, 66, 67, 68, 69, 70, 71, 72, 73, 74, 75, 76, 77, 78, 79, 80, 81, 122, 123, 124] (by decide +kernel) (by decide +kernel)
set_option maxRecDepth 20000 in
theorem gX8_build_X1_lay : GoodIn wsX8_build (wsV RX8 138 RX1 yX1_lay wsX1_lay) := goodIn_app (goodIn_of _ (by decide +kernel)) ggX8_build_X1_lay
set_option maxRecDepth 20000 in
theorem ggX8_build_X8_adopt : GoodIn wsX8_build wsX8_adopt := goodIn_r _ [86, 87, 2, 88, 89, 90, 91, 21, 92, 23, 24, 93, 94, 95, 96, 97, 98, 99, 85, 100, 101, 102, 103, 104, 105, 106, 107, 108, 109, 110, 111, 112, 113, 114, 115, 116, 117, 118, 119, 120, 121, 122, 123, 125, 126, 127, 128, 129, 130, 131, 132, 133, 134, 135, 136, 137, 138, 139, 140, 141, 142, 143, 144, 145, 146, 147, 148, 149, 150, 151, 152, 153, 154, 155] (by decide +kernel) (by decide +kernel)
set_option maxRecDepth 20000 in
theorem gX8_build_X8_adopt : GoodIn wsX8_build (wsV RX8 141 RX8 yX8_adopt wsX8_adopt) := goodIn_app (goodIn_of _ (by decide +kernel)) ggX8_build_X8_adopt
theorem dX8_build_0 : decode cX8_build 0 = .ok (.iload_n 1, 1) := by decide +kernel
theorem dX8_build_1 : decode cX8_build 1 = .ok (.iload_n 2, 1) := by decide +kernel
theorem dX8_build_2 : decode cX8_build 2 = .ok (.iload_n 3, 1) := by decide +kernel
theorem dX8_build_3 : decode cX8_build 3 = .ok (.invokestatic 128, 3) := by decide +kernel
theorem dX8_build_6 : decode cX8_build 6 = .ok (.ifCond .ne 5, 3) := by decide +kernel
theorem dX8_build_9 : decode cX8_build 9 = .ok (.iconst (-1), 1) := by decide +kernel
theorem dX8_build_10 : decode cX8_build 10 = .ok (.ireturn, 1) := by decide +kernel
theorem dX8_build_11 : decode cX8_build 11 = .ok (.iload_n 1, 1) := by decide +kernel
theorem dX8_build_12 : decode cX8_build 12 = .ok (.iload_n 2, 1) := by decide +kernel
theorem dX8_build_13 : decode cX8_build 13 = .ok (.iload_n 3, 1) := by decide +kernel
theorem dX8_build_14 : decode cX8_build 14 = .ok (.invokestatic 132, 3) := by decide +kernel
theorem dX8_build_17 : decode cX8_build 17 = .ok (.lstore 4, 2) := by decide +kernel
theorem dX8_build_19 : decode cX8_build 19 = .ok (.lload 4, 2) := by decide +kernel
theorem dX8_build_21 : decode cX8_build 21 = .ok (.ldc2_w 136, 3) := by decide +kernel
theorem dX8_build_24 : decode cX8_build 24 = .ok (.lcmp, 1) := by decide +kernel
theorem dX8_build_25 : decode cX8_build 25 = .ok (.ifCond .le 6, 3) := by decide +kernel
theorem dX8_build_28 : decode cX8_build 28 = .ok (.bipush (-2), 2) := by decide +kernel
theorem dX8_build_30 : decode cX8_build 30 = .ok (.ireturn, 1) := by decide +kernel
theorem dX8_build_31 : decode cX8_build 31 = .ok (.aload_n 0, 1) := by decide +kernel
theorem dX8_build_32 : decode cX8_build 32 = .ok (.getfield 23, 3) := by decide +kernel
theorem dX8_build_35 : decode cX8_build 35 = .ok (.lload 4, 2) := by decide +kernel
theorem dX8_build_37 : decode cX8_build 37 = .ok (.l2i, 1) := by decide +kernel
theorem dX8_build_38 : decode cX8_build 38 = .ok (.invokevirtual 96, 3) := by decide +kernel
theorem dX8_build_41 : decode cX8_build 41 = .ok (.aload_n 0, 1) := by decide +kernel
theorem dX8_build_42 : decode cX8_build 42 = .ok (.getfield 39, 3) := by decide +kernel
theorem dX8_build_45 : decode cX8_build 45 = .ok (.aload_n 0, 1) := by decide +kernel
theorem dX8_build_46 : decode cX8_build 46 = .ok (.getfield 23, 3) := by decide +kernel
theorem dX8_build_49 : decode cX8_build 49 = .ok (.iload_n 1, 1) := by decide +kernel
theorem dX8_build_50 : decode cX8_build 50 = .ok (.iload_n 2, 1) := by decide +kernel
theorem dX8_build_51 : decode cX8_build 51 = .ok (.iload_n 3, 1) := by decide +kernel
theorem dX8_build_52 : decode cX8_build 52 = .ok (.invokevirtual 138, 3) := by decide +kernel
theorem dX8_build_55 : decode cX8_build 55 = .ok (.aload_n 0, 1) := by decide +kernel
theorem dX8_build_56 : decode cX8_build 56 = .ok (.invokevirtual 141, 3) := by decide +kernel
theorem dX8_build_59 : decode cX8_build 59 = .ok (.ireturn, 1) := by decide +kernel
set_option maxRecDepth 20000 in
theorem ggX8_way_X2_has : GoodIn wsX8_way wsX2_has := goodIn_r _ [7, 8, 70, 71] (by decide +kernel) (by decide +kernel)
set_option maxRecDepth 20000 in
theorem gX8_way_X2_has : GoodIn wsX8_way (wsV RX8 144 RX2 yX2_has wsX2_has) := goodIn_app (goodIn_of _ (by decide +kernel)) ggX8_way_X2_has
set_option maxRecDepth 20000 in
theorem ggX8_way_X8_measure : GoodIn wsX8_way wsX8_measure := goodIn_r _ [13, 2, 14, 1, 15, 16, 17, 18, 19, 20, 21, 22, 23, 24, 25, 26, 27, 28, 29, 30, 31, 32, 33, 34, 35, 36, 37, 38, 39, 40, 41, 42, 43, 44, 12, 45, 46, 47, 48, 6, 49, 8, 50, 51, 52, 57, 58, 59, 60, 61, 62, 63, 64, 65, 66, 67, 68, 69, 72, 73, 74, 75, 76, 77, 78, 70, 71] (by decide +kernel) (by decide +kernel)
set_option maxRecDepth 20000 in
theorem gX8_way_X8_measure : GoodIn wsX8_way (wsV RX8 145 RX8 yX8_measure wsX8_measure) := goodIn_app (goodIn_of _ (by decide +kernel)) ggX8_way_X8_measure
set_option maxRecDepth 20000 in
theorem ggX8_way_X7_between : GoodIn wsX8_way wsX7_between := goodIn_r _ [56, 22, 72, 73, 74, 75, 76, 77, 78] (by decide +kernel) (by decide +kernel)
set_option maxRecDepth 20000 in
theorem gX8_way_X7_between : GoodIn wsX8_way (wsV RX8 148 RX7 yX7_between wsX7_between) := goodIn_app (goodIn_of _ (by decide +kernel)) ggX8_way_X7_between
theorem dX8_way_0 : decode cX8_way 0 = .ok (.aload_n 0, 1) := by decide +kernel
theorem dX8_way_1 : decode cX8_way 1 = .ok (.getfield 19, 3) := by decide +kernel
theorem dX8_way_4 : decode cX8_way 4 = .ok (.iload_n 1, 1) := by decide +kernel
theorem dX8_way_5 : decode cX8_way 5 = .ok (.invokevirtual 144, 3) := by decide +kernel
theorem dX8_way_8 : decode cX8_way 8 = .ok (.ifCond .eq 14, 3) := by decide +kernel
theorem dX8_way_11 : decode cX8_way 11 = .ok (.aload_n 0, 1) := by decide +kernel
theorem dX8_way_12 : decode cX8_way 12 = .ok (.getfield 19, 3) := by decide +kernel
theorem dX8_way_15 : decode cX8_way 15 = .ok (.iload_n 2, 1) := by decide +kernel
theorem dX8_way_16 : decode cX8_way 16 = .ok (.invokevirtual 144, 3) := by decide +kernel
theorem dX8_way_19 : decode cX8_way 19 = .ok (.ifCond .ne 5, 3) := by decide +kernel
theorem dX8_way_22 : decode cX8_way 22 = .ok (.iconst (-1), 1) := by decide +kernel
theorem dX8_way_23 : decode cX8_way 23 = .ok (.ireturn, 1) := by decide +kernel
theorem dX8_way_24 : decode cX8_way 24 = .ok (.aload_n 0, 1) := by decide +kernel
theorem dX8_way_25 : decode cX8_way 25 = .ok (.invokevirtual 145, 3) := by decide +kernel
theorem dX8_way_28 : decode cX8_way 28 = .ok (.aload_n 0, 1) := by decide +kernel
theorem dX8_way_29 : decode cX8_way 29 = .ok (.getfield 46, 3) := by decide +kernel
theorem dX8_way_32 : decode cX8_way 32 = .ok (.iload_n 1, 1) := by decide +kernel
theorem dX8_way_33 : decode cX8_way 33 = .ok (.iload_n 2, 1) := by decide +kernel
theorem dX8_way_34 : decode cX8_way 34 = .ok (.invokevirtual 148, 3) := by decide +kernel
theorem dX8_way_37 : decode cX8_way 37 = .ok (.istore_n 3, 1) := by decide +kernel
theorem dX8_way_38 : decode cX8_way 38 = .ok (.iload_n 3, 1) := by decide +kernel
theorem dX8_way_39 : decode cX8_way 39 = .ok (.ifCond .ge 8, 3) := by decide +kernel
theorem dX8_way_42 : decode cX8_way 42 = .ok (.bipush (-8), 2) := by decide +kernel
theorem dX8_way_44 : decode cX8_way 44 = .ok (.goto 4, 3) := by decide +kernel
theorem dX8_way_47 : decode cX8_way 47 = .ok (.iload_n 3, 1) := by decide +kernel
theorem dX8_way_48 : decode cX8_way 48 = .ok (.ireturn, 1) := by decide +kernel
set_option maxRecDepth 20000 in
theorem ggX8_many_X8_measure : GoodIn wsX8_many wsX8_measure := goodIn_r _ [10, 3, 11, 1, 12, 13, 14, 15, 16, 17, 18, 19, 20, 21, 22, 23, 24, 25, 26, 27, 28, 29, 30, 31, 32, 33, 34, 35, 36, 37, 38, 39, 40, 41, 9, 42, 43, 44, 45, 46, 47, 48, 49, 50, 51, 141, 142, 143, 144, 145, 146, 147, 148, 149, 150, 151, 152, 153, 156, 157, 158, 159, 160, 161, 162, 154, 155] (by decide +kernel) (by decide +kernel)
set_option maxRecDepth 20000 in
theorem gX8_many_X8_measure : GoodIn wsX8_many (wsV RX8 145 RX8 yX8_measure wsX8_measure) := goodIn_app (goodIn_of _ (by decide +kernel)) ggX8_many_X8_measure
set_option maxRecDepth 20000 in
theorem ggX8_many_X2_roads : GoodIn wsX8_many wsX2_roads := goodIn_r _ [55, 48, 56, 57, 58, 46, 59, 49, 60, 61, 62, 63, 64, 65, 66, 154, 155] (by decide +kernel) (by decide +kernel)
set_option maxRecDepth 20000 in
theorem gX8_many_X2_roads : GoodIn wsX8_many (wsV RX8 120 RX2 yX2_roads wsX2_roads) := goodIn_app (goodIn_of _ (by decide +kernel)) ggX8_many_X2_roads
set_option maxRecDepth 20000 in
theorem ggX8_many_X7_pieces : GoodIn wsX8_many wsX7_pieces := goodIn_r _ [70, 18, 25, 71, 9, 72, 73, 61, 62, 63, 64, 65, 66, 156, 157, 158, 159, 160, 161, 162] (by decide +kernel) (by decide +kernel)
set_option maxRecDepth 20000 in
theorem gX8_many_X7_pieces : GoodIn wsX8_many (wsV RX8 155 RX7 yX7_pieces wsX7_pieces) := goodIn_app (goodIn_of _ (by decide +kernel)) ggX8_many_X7_pieces
set_option maxRecDepth 20000 in
theorem ggX8_many_X8_oneIf : GoodIn wsX8_many wsX8_oneIf := goodIn_r _ [76] (by decide +kernel) (by decide +kernel)
set_option maxRecDepth 20000 in
theorem gX8_many_X8_oneIf : GoodIn wsX8_many (va_wsS RX8 161 yX8_oneIf wsX8_oneIf) := goodIn_app (goodIn_of _ (by decide +kernel)) ggX8_many_X8_oneIf
set_option maxRecDepth 20000 in
theorem ggX8_many_X7_shortestRing : GoodIn wsX8_many wsX7_shortestRing := goodIn_r _ [80, 18, 81, 82, 83, 15, 84, 85, 86, 87, 88, 89, 19, 90, 91, 92, 93, 20, 94, 61, 62, 63, 64, 65, 66, 156, 157, 158, 159, 160, 161, 162, 154, 155] (by decide +kernel) (by decide +kernel)
set_option maxRecDepth 20000 in
theorem gX8_many_X7_shortestRing : GoodIn wsX8_many (wsV RX8 168 RX7 yX7_shortestRing wsX7_shortestRing) := goodIn_app (goodIn_of _ (by decide +kernel)) ggX8_many_X7_shortestRing
set_option maxRecDepth 20000 in
theorem ggX8_many_X2_isEven : GoodIn wsX8_many wsX2_isEven := goodIn_r _ [98, 48, 56, 57, 58, 46, 59, 49, 60, 61, 62, 63, 64, 65, 66, 154, 155] (by decide +kernel) (by decide +kernel)
set_option maxRecDepth 20000 in
theorem gX8_many_X2_isEven : GoodIn wsX8_many (wsV RX8 172 RX2 yX2_isEven wsX2_isEven) := goodIn_app (goodIn_of _ (by decide +kernel)) ggX8_many_X2_isEven
set_option maxRecDepth 20000 in
theorem ggX8_many_X7_isOfSides : GoodIn wsX8_many wsX7_isOfSides := goodIn_r _ [102, 18, 85, 86, 87, 88, 15, 89, 19, 90, 91, 92, 93, 20, 156, 157, 158, 159, 160, 161, 162, 154, 155] (by decide +kernel) (by decide +kernel)
set_option maxRecDepth 20000 in
theorem gX8_many_X7_isOfSides : GoodIn wsX8_many (wsV RX8 176 RX7 yX7_isOfSides wsX7_isOfSides) := goodIn_app (goodIn_of _ (by decide +kernel)) ggX8_many_X7_isOfSides
set_option maxRecDepth 20000 in
theorem ggX8_many_X7_isFolded : GoodIn wsX8_many wsX7_isFolded := goodIn_r _ [106, 27, 18, 86, 87, 88, 15, 89, 19, 107, 108, 109, 110, 90, 91, 92, 93, 20, 156, 157, 158, 159, 160, 161, 162] (by decide +kernel) (by decide +kernel)
set_option maxRecDepth 20000 in
theorem gX8_many_X7_isFolded : GoodIn wsX8_many (wsV RX8 180 RX7 yX7_isFolded wsX7_isFolded) := goodIn_app (goodIn_of _ (by decide +kernel)) ggX8_many_X7_isFolded
set_option maxRecDepth 20000 in
theorem ggX8_many_X8_isLike : GoodIn wsX8_many wsX8_isLike := goodIn_r _ [114, 115, 116, 1, 3, 117, 6, 7, 8, 9, 10, 11, 12, 13, 14, 15, 16, 17, 18, 19, 20, 21, 22, 23, 24, 25, 26, 27, 28, 29, 30, 31, 32, 33, 34, 35, 36, 37, 38, 39, 40, 41, 42, 43, 44, 45, 46, 47, 48, 49, 50, 51, 118, 119, 120, 121, 122, 123, 124, 125, 126, 127, 128, 129, 130, 131, 132, 133, 134, 135, 136, 137, 138, 87, 88, 89, 139, 91, 92, 93, 140, 61, 62, 63, 64, 65, 66, 141, 142, 143, 144, 145, 146, 147, 148, 149, 150, 151, 152, 153, 163, 164, 165, 166, 167, 168, 169, 156, 157, 158, 159, 160, 161, 162, 154, 155] (by decide +kernel) (by decide +kernel)
set_option maxRecDepth 20000 in
theorem gX8_many_X8_isLike : GoodIn wsX8_many (wsV RX8 183 RX8 yX8_isLike wsX8_isLike) := goodIn_app (goodIn_of _ (by decide +kernel)) ggX8_many_X8_isLike
theorem dX8_many_0 : decode cX8_many 0 = .ok (.aload_n 0, 1) := by decide +kernel
theorem dX8_many_1 : decode cX8_many 1 = .ok (.invokevirtual 145, 3) := by decide +kernel
theorem dX8_many_4 : decode cX8_many 4 = .ok (.iload_n 1, 1) := by decide +kernel
theorem dX8_many_5 : decode cX8_many 5 = .ok (.tableswitch 155 0 9 #[55, 63, 71, 79, 90, 98, 110, 121, 136, 147], 55) := by decide +kernel
theorem dX8_many_60 : decode cX8_many 60 = .ok (.aload_n 0, 1) := by decide +kernel
theorem dX8_many_61 : decode cX8_many 61 = .ok (.getfield 19, 3) := by decide +kernel
theorem dX8_many_64 : decode cX8_many 64 = .ok (.getfield 152, 3) := by decide +kernel
theorem dX8_many_67 : decode cX8_many 67 = .ok (.ireturn, 1) := by decide +kernel
theorem dX8_many_68 : decode cX8_many 68 = .ok (.aload_n 0, 1) := by decide +kernel
theorem dX8_many_69 : decode cX8_many 69 = .ok (.getfield 19, 3) := by decide +kernel
theorem dX8_many_72 : decode cX8_many 72 = .ok (.invokevirtual 120, 3) := by decide +kernel
theorem dX8_many_75 : decode cX8_many 75 = .ok (.ireturn, 1) := by decide +kernel
theorem dX8_many_76 : decode cX8_many 76 = .ok (.aload_n 0, 1) := by decide +kernel
theorem dX8_many_77 : decode cX8_many 77 = .ok (.getfield 46, 3) := by decide +kernel
theorem dX8_many_80 : decode cX8_many 80 = .ok (.invokevirtual 155, 3) := by decide +kernel
theorem dX8_many_83 : decode cX8_many 83 = .ok (.ireturn, 1) := by decide +kernel
theorem dX8_many_84 : decode cX8_many 84 = .ok (.aload_n 0, 1) := by decide +kernel
theorem dX8_many_85 : decode cX8_many 85 = .ok (.getfield 46, 3) := by decide +kernel
