theorem dX8_twice_13 : decode cX8_twice 13 = .ok (.if_icmp .le 6, 3) := by decide +kernel
theorem dX8_twice_16 : decode cX8_twice 16 = .ok (.bipush (-2), 2) := by decide +kernel
theorem dX8_twice_18 : decode cX8_twice 18 = .ok (.ireturn, 1) := by decide +kernel
theorem dX8_twice_19 : decode cX8_twice 19 = .ok (.aload_n 0, 1) := by decide +kernel
theorem dX8_twice_20 : decode cX8_twice 20 = .ok (.getfield 23, 3) := by decide +kernel
theorem dX8_twice_23 : decode cX8_twice 23 = .ok (.iconst 2, 1) := by decide +kernel
theorem dX8_twice_24 : decode cX8_twice 24 = .ok (.iload_n 1, 1) := by decide +kernel
theorem dX8_twice_25 : decode cX8_twice 25 = .ok (.imul, 1) := by decide +kernel
theorem dX8_twice_26 : decode cX8_twice 26 = .ok (.invokevirtual 96, 3) := by decide +kernel
theorem dX8_twice_29 : decode cX8_twice 29 = .ok (.iconst 0, 1) := by decide +kernel
theorem dX8_twice_30 : decode cX8_twice 30 = .ok (.istore_n 2, 1) := by decide +kernel
theorem dX8_twice_31 : decode cX8_twice 31 = .ok (.iload_n 2, 1) := by decide +kernel
theorem dX8_twice_32 : decode cX8_twice 32 = .ok (.iload_n 1, 1) := by decide +kernel
theorem dX8_twice_33 : decode cX8_twice 33 = .ok (.if_icmp .ge 45, 3) := by decide +kernel
theorem dX8_twice_36 : decode cX8_twice 36 = .ok (.iconst 0, 1) := by decide +kernel
theorem dX8_twice_37 : decode cX8_twice 37 = .ok (.istore_n 3, 1) := by decide +kernel
theorem dX8_twice_38 : decode cX8_twice 38 = .ok (.iload_n 3, 1) := by decide +kernel
theorem dX8_twice_39 : decode cX8_twice 39 = .ok (.iload_n 1, 1) := by decide +kernel
theorem dX8_twice_40 : decode cX8_twice 40 = .ok (.if_icmp .ge 32, 3) := by decide +kernel
theorem dX8_twice_43 : decode cX8_twice 43 = .ok (.aload_n 0, 1) := by decide +kernel
theorem dX8_twice_44 : decode cX8_twice 44 = .ok (.getfield 19, 3) := by decide +kernel
theorem dX8_twice_47 : decode cX8_twice 47 = .ok (.iload_n 2, 1) := by decide +kernel
theorem dX8_twice_48 : decode cX8_twice 48 = .ok (.iload_n 3, 1) := by decide +kernel
theorem dX8_twice_49 : decode cX8_twice 49 = .ok (.invokevirtual 107, 3) := by decide +kernel
theorem dX8_twice_52 : decode cX8_twice 52 = .ok (.ifCond .eq 14, 3) := by decide +kernel
theorem dX8_twice_55 : decode cX8_twice 55 = .ok (.aload_n 0, 1) := by decide +kernel
theorem dX8_twice_56 : decode cX8_twice 56 = .ok (.getfield 23, 3) := by decide +kernel
theorem dX8_twice_59 : decode cX8_twice 59 = .ok (.iload_n 2, 1) := by decide +kernel
theorem dX8_twice_60 : decode cX8_twice 60 = .ok (.iload_n 1, 1) := by decide +kernel
theorem dX8_twice_61 : decode cX8_twice 61 = .ok (.iload_n 3, 1) := by decide +kernel
theorem dX8_twice_62 : decode cX8_twice 62 = .ok (.iadd, 1) := by decide +kernel
theorem dX8_twice_63 : decode cX8_twice 63 = .ok (.invokevirtual 110, 3) := by decide +kernel
theorem dX8_twice_66 : decode cX8_twice 66 = .ok (.iinc 3 1, 3) := by decide +kernel
theorem dX8_twice_69 : decode cX8_twice 69 = .ok (.goto (-31), 3) := by decide +kernel
theorem dX8_twice_72 : decode cX8_twice 72 = .ok (.iinc 2 1, 3) := by decide +kernel
theorem dX8_twice_75 : decode cX8_twice 75 = .ok (.goto (-44), 3) := by decide +kernel
theorem dX8_twice_78 : decode cX8_twice 78 = .ok (.aload_n 0, 1) := by decide +kernel
theorem dX8_twice_79 : decode cX8_twice 79 = .ok (.invokevirtual 141, 3) := by decide +kernel
theorem dX8_twice_82 : decode cX8_twice 82 = .ok (.ireturn, 1) := by decide +kernel
theorem dX8_power_0 : decode cX8_power 0 = .ok (.iload_n 1, 1) := by decide +kernel
theorem dX8_power_1 : decode cX8_power 1 = .ok (.iconst 1, 1) := by decide +kernel
theorem dX8_power_2 : decode cX8_power 2 = .ok (.if_icmp .ge 5, 3) := by decide +kernel
theorem dX8_power_5 : decode cX8_power 5 = .ok (.iconst (-1), 1) := by decide +kernel
theorem dX8_power_6 : decode cX8_power 6 = .ok (.ireturn, 1) := by decide +kernel
theorem dX8_power_7 : decode cX8_power 7 = .ok (.aload_n 0, 1) := by decide +kernel
theorem dX8_power_8 : decode cX8_power 8 = .ok (.invokevirtual 145, 3) := by decide +kernel
theorem dX8_power_11 : decode cX8_power 11 = .ok (.aload_n 0, 1) := by decide +kernel
theorem dX8_power_12 : decode cX8_power 12 = .ok (.getfield 23, 3) := by decide +kernel
theorem dX8_power_15 : decode cX8_power 15 = .ok (.aload_n 0, 1) := by decide +kernel
theorem dX8_power_16 : decode cX8_power 16 = .ok (.getfield 19, 3) := by decide +kernel
theorem dX8_power_19 : decode cX8_power 19 = .ok (.getfield 152, 3) := by decide +kernel
theorem dX8_power_22 : decode cX8_power 22 = .ok (.invokevirtual 96, 3) := by decide +kernel
theorem dX8_power_25 : decode cX8_power 25 = .ok (.iconst 0, 1) := by decide +kernel
theorem dX8_power_26 : decode cX8_power 26 = .ok (.istore_n 2, 1) := by decide +kernel
theorem dX8_power_27 : decode cX8_power 27 = .ok (.iload_n 2, 1) := by decide +kernel
theorem dX8_power_28 : decode cX8_power 28 = .ok (.aload_n 0, 1) := by decide +kernel
theorem dX8_power_29 : decode cX8_power 29 = .ok (.getfield 19, 3) := by decide +kernel
theorem dX8_power_32 : decode cX8_power 32 = .ok (.getfield 152, 3) := by decide +kernel
theorem dX8_power_35 : decode cX8_power 35 = .ok (.if_icmp .ge 52, 3) := by decide +kernel
theorem dX8_power_38 : decode cX8_power 38 = .ok (.iload_n 2, 1) := by decide +kernel
theorem dX8_power_39 : decode cX8_power 39 = .ok (.iconst 1, 1) := by decide +kernel
theorem dX8_power_40 : decode cX8_power 40 = .ok (.iadd, 1) := by decide +kernel
theorem dX8_power_41 : decode cX8_power 41 = .ok (.istore_n 3, 1) := by decide +kernel
theorem dX8_power_42 : decode cX8_power 42 = .ok (.iload_n 3, 1) := by decide +kernel
theorem dX8_power_43 : decode cX8_power 43 = .ok (.aload_n 0, 1) := by decide +kernel
theorem dX8_power_44 : decode cX8_power 44 = .ok (.getfield 19, 3) := by decide +kernel
theorem dX8_power_47 : decode cX8_power 47 = .ok (.getfield 152, 3) := by decide +kernel
theorem dX8_power_50 : decode cX8_power 50 = .ok (.if_icmp .ge 31, 3) := by decide +kernel
theorem dX8_power_53 : decode cX8_power 53 = .ok (.aload_n 0, 1) := by decide +kernel
theorem dX8_power_54 : decode cX8_power 54 = .ok (.getfield 46, 3) := by decide +kernel
theorem dX8_power_57 : decode cX8_power 57 = .ok (.iload_n 2, 1) := by decide +kernel
theorem dX8_power_58 : decode cX8_power 58 = .ok (.iload_n 3, 1) := by decide +kernel
theorem dX8_power_59 : decode cX8_power 59 = .ok (.invokevirtual 148, 3) := by decide +kernel
theorem dX8_power_62 : decode cX8_power 62 = .ok (.iload_n 1, 1) := by decide +kernel
theorem dX8_power_63 : decode cX8_power 63 = .ok (.if_icmp .ne 12, 3) := by decide +kernel
theorem dX8_power_66 : decode cX8_power 66 = .ok (.aload_n 0, 1) := by decide +kernel
theorem dX8_power_67 : decode cX8_power 67 = .ok (.getfield 23, 3) := by decide +kernel
theorem dX8_power_70 : decode cX8_power 70 = .ok (.iload_n 2, 1) := by decide +kernel
theorem dX8_power_71 : decode cX8_power 71 = .ok (.iload_n 3, 1) := by decide +kernel
theorem dX8_power_72 : decode cX8_power 72 = .ok (.invokevirtual 110, 3) := by decide +kernel
theorem dX8_power_75 : decode cX8_power 75 = .ok (.iinc 3 1, 3) := by decide +kernel
theorem dX8_power_78 : decode cX8_power 78 = .ok (.goto (-36), 3) := by decide +kernel
theorem dX8_power_81 : decode cX8_power 81 = .ok (.iinc 2 1, 3) := by decide +kernel
theorem dX8_power_84 : decode cX8_power 84 = .ok (.goto (-57), 3) := by decide +kernel
theorem dX8_power_87 : decode cX8_power 87 = .ok (.aload_n 0, 1) := by decide +kernel
theorem dX8_power_88 : decode cX8_power 88 = .ok (.invokevirtual 141, 3) := by decide +kernel
theorem dX8_power_91 : decode cX8_power 91 = .ok (.pop, 1) := by decide +kernel
theorem dX8_power_92 : decode cX8_power 92 = .ok (.aload_n 0, 1) := by decide +kernel
theorem dX8_power_93 : decode cX8_power 93 = .ok (.getfield 19, 3) := by decide +kernel
theorem dX8_power_96 : decode cX8_power 96 = .ok (.invokevirtual 120, 3) := by decide +kernel
theorem dX8_power_99 : decode cX8_power 99 = .ok (.ireturn, 1) := by decide +kernel
theorem dX8_other_0 : decode cX8_other 0 = .ok (.aload_n 0, 1) := by decide +kernel
theorem dX8_other_1 : decode cX8_other 1 = .ok (.getfield 23, 3) := by decide +kernel
theorem dX8_other_4 : decode cX8_other 4 = .ok (.aload_n 0, 1) := by decide +kernel
theorem dX8_other_5 : decode cX8_other 5 = .ok (.getfield 19, 3) := by decide +kernel
theorem dX8_other_8 : decode cX8_other 8 = .ok (.getfield 152, 3) := by decide +kernel
theorem dX8_other_11 : decode cX8_other 11 = .ok (.invokevirtual 96, 3) := by decide +kernel
theorem dX8_other_14 : decode cX8_other 14 = .ok (.iconst 0, 1) := by decide +kernel
theorem dX8_other_15 : decode cX8_other 15 = .ok (.istore_n 1, 1) := by decide +kernel
theorem dX8_other_16 : decode cX8_other 16 = .ok (.iload_n 1, 1) := by decide +kernel
theorem dX8_other_17 : decode cX8_other 17 = .ok (.aload_n 0, 1) := by decide +kernel
theorem dX8_other_18 : decode cX8_other 18 = .ok (.getfield 19, 3) := by decide +kernel
theorem dX8_other_21 : decode cX8_other 21 = .ok (.getfield 152, 3) := by decide +kernel
theorem dX8_other_24 : decode cX8_other 24 = .ok (.if_icmp .ge 51, 3) := by decide +kernel
theorem dX8_other_27 : decode cX8_other 27 = .ok (.iload_n 1, 1) := by decide +kernel
theorem dX8_other_28 : decode cX8_other 28 = .ok (.iconst 1, 1) := by decide +kernel
theorem dX8_other_29 : decode cX8_other 29 = .ok (.iadd, 1) := by decide +kernel
theorem dX8_other_30 : decode cX8_other 30 = .ok (.istore_n 2, 1) := by decide +kernel
theorem dX8_other_31 : decode cX8_other 31 = .ok (.iload_n 2, 1) := by decide +kernel
theorem dX8_other_32 : decode cX8_other 32 = .ok (.aload_n 0, 1) := by decide +kernel
theorem dX8_other_33 : decode cX8_other 33 = .ok (.getfield 19, 3) := by decide +kernel
theorem dX8_other_36 : decode cX8_other 36 = .ok (.getfield 152, 3) := by decide +kernel
theorem dX8_other_39 : decode cX8_other 39 = .ok (.if_icmp .ge 30, 3) := by decide +kernel
theorem dX8_other_42 : decode cX8_other 42 = .ok (.aload_n 0, 1) := by decide +kernel
theorem dX8_other_43 : decode cX8_other 43 = .ok (.getfield 19, 3) := by decide +kernel
theorem dX8_other_46 : decode cX8_other 46 = .ok (.iload_n 1, 1) := by decide +kernel
theorem dX8_other_47 : decode cX8_other 47 = .ok (.iload_n 2, 1) := by decide +kernel
theorem dX8_other_48 : decode cX8_other 48 = .ok (.invokevirtual 107, 3) := by decide +kernel
theorem dX8_other_51 : decode cX8_other 51 = .ok (.ifCond .ne 12, 3) := by decide +kernel
theorem dX8_other_54 : decode cX8_other 54 = .ok (.aload_n 0, 1) := by decide +kernel
theorem dX8_other_55 : decode cX8_other 55 = .ok (.getfield 23, 3) := by decide +kernel
theorem dX8_other_58 : decode cX8_other 58 = .ok (.iload_n 1, 1) := by decide +kernel
theorem dX8_other_59 : decode cX8_other 59 = .ok (.iload_n 2, 1) := by decide +kernel
theorem dX8_other_60 : decode cX8_other 60 = .ok (.invokevirtual 110, 3) := by decide +kernel
theorem dX8_other_63 : decode cX8_other 63 = .ok (.iinc 2 1, 3) := by decide +kernel
theorem dX8_other_66 : decode cX8_other 66 = .ok (.goto (-35), 3) := by decide +kernel
theorem dX8_other_69 : decode cX8_other 69 = .ok (.iinc 1 1, 3) := by decide +kernel
theorem dX8_other_72 : decode cX8_other 72 = .ok (.goto (-56), 3) := by decide +kernel
theorem dX8_other_75 : decode cX8_other 75 = .ok (.aload_n 0, 1) := by decide +kernel
theorem dX8_other_76 : decode cX8_other 76 = .ok (.invokevirtual 141, 3) := by decide +kernel
theorem dX8_other_79 : decode cX8_other 79 = .ok (.pop, 1) := by decide +kernel
theorem dX8_other_80 : decode cX8_other 80 = .ok (.aload_n 0, 1) := by decide +kernel
theorem dX8_other_81 : decode cX8_other 81 = .ok (.getfield 19, 3) := by decide +kernel
theorem dX8_other_84 : decode cX8_other 84 = .ok (.invokevirtual 120, 3) := by decide +kernel
theorem dX8_other_87 : decode cX8_other 87 = .ok (.ireturn, 1) := by decide +kernel
theorem dX8_lines_0 : decode cX8_lines 0 = .ok (.aload_n 0, 1) := by decide +kernel
theorem dX8_lines_1 : decode cX8_lines 1 = .ok (.getfield 19, 3) := by decide +kernel
theorem dX8_lines_4 : decode cX8_lines 4 = .ok (.invokevirtual 120, 3) := by decide +kernel
theorem dX8_lines_7 : decode cX8_lines 7 = .ok (.istore_n 1, 1) := by decide +kernel
theorem dX8_lines_8 : decode cX8_lines 8 = .ok (.iload_n 1, 1) := by decide +kernel
theorem dX8_lines_9 : decode cX8_lines 9 = .ok (.bipush 32, 2) := by decide +kernel
theorem dX8_lines_11 : decode cX8_lines 11 = .ok (.if_icmp .le 6, 3) := by decide +kernel
theorem dX8_lines_14 : decode cX8_lines 14 = .ok (.bipush (-2), 2) := by decide +kernel
theorem dX8_lines_16 : decode cX8_lines 16 = .ok (.ireturn, 1) := by decide +kernel
theorem dX8_lines_17 : decode cX8_lines 17 = .ok (.aload_n 0, 1) := by decide +kernel
theorem dX8_lines_18 : decode cX8_lines 18 = .ok (.invokevirtual 278, 3) := by decide +kernel
theorem dX8_lines_21 : decode cX8_lines 21 = .ok (.aload_n 0, 1) := by decide +kernel
theorem dX8_lines_22 : decode cX8_lines 22 = .ok (.getfield 23, 3) := by decide +kernel
theorem dX8_lines_25 : decode cX8_lines 25 = .ok (.iload_n 1, 1) := by decide +kernel
theorem dX8_lines_26 : decode cX8_lines 26 = .ok (.invokevirtual 96, 3) := by decide +kernel
theorem dX8_lines_29 : decode cX8_lines 29 = .ok (.iconst 0, 1) := by decide +kernel
theorem dX8_lines_30 : decode cX8_lines 30 = .ok (.istore_n 2, 1) := by decide +kernel
theorem dX8_lines_31 : decode cX8_lines 31 = .ok (.iload_n 2, 1) := by decide +kernel
theorem dX8_lines_32 : decode cX8_lines 32 = .ok (.iload_n 1, 1) := by decide +kernel
theorem dX8_lines_33 : decode cX8_lines 33 = .ok (.if_icmp .ge 93, 3) := by decide +kernel
theorem dX8_lines_36 : decode cX8_lines 36 = .ok (.iload_n 2, 1) := by decide +kernel
theorem dX8_lines_37 : decode cX8_lines 37 = .ok (.iconst 1, 1) := by decide +kernel
theorem dX8_lines_38 : decode cX8_lines 38 = .ok (.iadd, 1) := by decide +kernel
theorem dX8_lines_39 : decode cX8_lines 39 = .ok (.istore_n 3, 1) := by decide +kernel
theorem dX8_lines_40 : decode cX8_lines 40 = .ok (.iload_n 3, 1) := by decide +kernel
theorem dX8_lines_41 : decode cX8_lines 41 = .ok (.iload_n 1, 1) := by decide +kernel
theorem dX8_lines_42 : decode cX8_lines 42 = .ok (.if_icmp .ge 78, 3) := by decide +kernel
theorem dX8_lines_45 : decode cX8_lines 45 = .ok (.aload_n 0, 1) := by decide +kernel
theorem dX8_lines_46 : decode cX8_lines 46 = .ok (.getfield 29, 3) := by decide +kernel
theorem dX8_lines_49 : decode cX8_lines 49 = .ok (.iload_n 2, 1) := by decide +kernel
theorem dX8_lines_50 : decode cX8_lines 50 = .ok (.iaload, 1) := by decide +kernel
theorem dX8_lines_51 : decode cX8_lines 51 = .ok (.aload_n 0, 1) := by decide +kernel
theorem dX8_lines_52 : decode cX8_lines 52 = .ok (.getfield 29, 3) := by decide +kernel
theorem dX8_lines_55 : decode cX8_lines 55 = .ok (.iload_n 3, 1) := by decide +kernel
theorem dX8_lines_56 : decode cX8_lines 56 = .ok (.iaload, 1) := by decide +kernel
theorem dX8_lines_57 : decode cX8_lines 57 = .ok (.if_icmp .eq 48, 3) := by decide +kernel
theorem dX8_lines_60 : decode cX8_lines 60 = .ok (.aload_n 0, 1) := by decide +kernel
theorem dX8_lines_61 : decode cX8_lines 61 = .ok (.getfield 29, 3) := by decide +kernel
theorem dX8_lines_64 : decode cX8_lines 64 = .ok (.iload_n 2, 1) := by decide +kernel
theorem dX8_lines_65 : decode cX8_lines 65 = .ok (.iaload, 1) := by decide +kernel
theorem dX8_lines_66 : decode cX8_lines 66 = .ok (.aload_n 0, 1) := by decide +kernel
theorem dX8_lines_67 : decode cX8_lines 67 = .ok (.getfield 33, 3) := by decide +kernel
theorem dX8_lines_70 : decode cX8_lines 70 = .ok (.iload_n 3, 1) := by decide +kernel
theorem dX8_lines_71 : decode cX8_lines 71 = .ok (.iaload, 1) := by decide +kernel
theorem dX8_lines_72 : decode cX8_lines 72 = .ok (.if_icmp .eq 33, 3) := by decide +kernel
theorem dX8_lines_75 : decode cX8_lines 75 = .ok (.aload_n 0, 1) := by decide +kernel
theorem dX8_lines_76 : decode cX8_lines 76 = .ok (.getfield 33, 3) := by decide +kernel
theorem dX8_lines_79 : decode cX8_lines 79 = .ok (.iload_n 2, 1) := by decide +kernel
theorem dX8_lines_80 : decode cX8_lines 80 = .ok (.iaload, 1) := by decide +kernel
theorem dX8_lines_81 : decode cX8_lines 81 = .ok (.aload_n 0, 1) := by decide +kernel
theorem dX8_lines_82 : decode cX8_lines 82 = .ok (.getfield 29, 3) := by decide +kernel
theorem dX8_lines_85 : decode cX8_lines 85 = .ok (.iload_n 3, 1) := by decide +kernel
theorem dX8_lines_86 : decode cX8_lines 86 = .ok (.iaload, 1) := by decide +kernel
theorem dX8_lines_87 : decode cX8_lines 87 = .ok (.if_icmp .eq 18, 3) := by decide +kernel
theorem dX8_lines_90 : decode cX8_lines 90 = .ok (.aload_n 0, 1) := by decide +kernel
theorem dX8_lines_91 : decode cX8_lines 91 = .ok (.getfield 33, 3) := by decide +kernel
theorem dX8_lines_94 : decode cX8_lines 94 = .ok (.iload_n 2, 1) := by decide +kernel
theorem dX8_lines_95 : decode cX8_lines 95 = .ok (.iaload, 1) := by decide +kernel
theorem dX8_lines_96 : decode cX8_lines 96 = .ok (.aload_n 0, 1) := by decide +kernel
theorem dX8_lines_97 : decode cX8_lines 97 = .ok (.getfield 33, 3) := by decide +kernel
theorem dX8_lines_100 : decode cX8_lines 100 = .ok (.iload_n 3, 1) := by decide +kernel
theorem dX8_lines_101 : decode cX8_lines 101 = .ok (.iaload, 1) := by decide +kernel
theorem dX8_lines_102 : decode cX8_lines 102 = .ok (.if_icmp .ne 12, 3) := by decide +kernel
theorem dX8_lines_105 : decode cX8_lines 105 = .ok (.aload_n 0, 1) := by decide +kernel
theorem dX8_lines_106 : decode cX8_lines 106 = .ok (.getfield 23, 3) := by decide +kernel
theorem dX8_lines_109 : decode cX8_lines 109 = .ok (.iload_n 2, 1) := by decide +kernel
theorem dX8_lines_110 : decode cX8_lines 110 = .ok (.iload_n 3, 1) := by decide +kernel
theorem dX8_lines_111 : decode cX8_lines 111 = .ok (.invokevirtual 110, 3) := by decide +kernel
theorem dX8_lines_114 : decode cX8_lines 114 = .ok (.iinc 3 1, 3) := by decide +kernel
theorem dX8_lines_117 : decode cX8_lines 117 = .ok (.goto (-77), 3) := by decide +kernel
theorem dX8_lines_120 : decode cX8_lines 120 = .ok (.iinc 2 1, 3) := by decide +kernel
theorem dX8_lines_123 : decode cX8_lines 123 = .ok (.goto (-92), 3) := by decide +kernel
theorem dX8_lines_126 : decode cX8_lines 126 = .ok (.aload_n 0, 1) := by decide +kernel
theorem dX8_lines_127 : decode cX8_lines 127 = .ok (.invokevirtual 141, 3) := by decide +kernel
theorem dX8_lines_130 : decode cX8_lines 130 = .ok (.ireturn, 1) := by decide +kernel
theorem dX8_keep_0 : decode cX8_keep 0 = .ok (.aload_n 0, 1) := by decide +kernel
theorem dX8_keep_1 : decode cX8_keep 1 = .ok (.getfield 26, 3) := by decide +kernel
theorem dX8_keep_4 : decode cX8_keep 4 = .ok (.aload_n 0, 1) := by decide +kernel
theorem dX8_keep_5 : decode cX8_keep 5 = .ok (.getfield 19, 3) := by decide +kernel
theorem dX8_keep_8 : decode cX8_keep 8 = .ok (.invokevirtual 281, 3) := by decide +kernel
theorem dX8_keep_11 : decode cX8_keep 11 = .ok (.aload_n 0, 1) := by decide +kernel
theorem dX8_keep_12 : decode cX8_keep 12 = .ok (.iconst 1, 1) := by decide +kernel
theorem dX8_keep_13 : decode cX8_keep 13 = .ok (.putfield 285, 3) := by decide +kernel
theorem dX8_keep_16 : decode cX8_keep 16 = .ok (.iconst 1, 1) := by decide +kernel
theorem dX8_keep_17 : decode cX8_keep 17 = .ok (.ireturn, 1) := by decide +kernel
theorem dX8_back_0 : decode cX8_back 0 = .ok (.aload_n 0, 1) := by decide +kernel
theorem dX8_back_1 : decode cX8_back 1 = .ok (.getfield 285, 3) := by decide +kernel
theorem dX8_back_4 : decode cX8_back 4 = .ok (.ifCond .ne 6, 3) := by decide +kernel
theorem dX8_back_7 : decode cX8_back 7 = .ok (.bipush (-5), 2) := by decide +kernel
theorem dX8_back_9 : decode cX8_back 9 = .ok (.ireturn, 1) := by decide +kernel
theorem dX8_back_10 : decode cX8_back 10 = .ok (.aload_n 0, 1) := by decide +kernel
theorem dX8_back_11 : decode cX8_back 11 = .ok (.getfield 19, 3) := by decide +kernel
theorem dX8_back_14 : decode cX8_back 14 = .ok (.aload_n 0, 1) := by decide +kernel
theorem dX8_back_15 : decode cX8_back 15 = .ok (.getfield 26, 3) := by decide +kernel
theorem dX8_back_18 : decode cX8_back 18 = .ok (.invokevirtual 281, 3) := by decide +kernel
theorem dX8_back_21 : decode cX8_back 21 = .ok (.aload_n 0, 1) := by decide +kernel
theorem dX8_back_22 : decode cX8_back 22 = .ok (.invokevirtual 100, 3) := by decide +kernel
theorem dX8_back_25 : decode cX8_back 25 = .ok (.iconst 1, 1) := by decide +kernel
theorem dX8_back_26 : decode cX8_back 26 = .ok (.ireturn, 1) := by decide +kernel
theorem dX8_perfect_0 : decode cX8_perfect 0 = .ok (.iload_n 1, 1) := by decide +kernel
theorem dX8_perfect_1 : decode cX8_perfect 1 = .ok (.ifCond .lt 9, 3) := by decide +kernel
theorem dX8_perfect_4 : decode cX8_perfect 4 = .ok (.iload_n 1, 1) := by decide +kernel
theorem dX8_perfect_5 : decode cX8_perfect 5 = .ok (.bipush 6, 2) := by decide +kernel
theorem dX8_perfect_7 : decode cX8_perfect 7 = .ok (.if_icmp .le 5, 3) := by decide +kernel
theorem dX8_perfect_10 : decode cX8_perfect 10 = .ok (.iconst (-1), 1) := by decide +kernel
theorem dX8_perfect_11 : decode cX8_perfect 11 = .ok (.ireturn, 1) := by decide +kernel
theorem dX8_perfect_12 : decode cX8_perfect 12 = .ok (.aload_n 0, 1) := by decide +kernel
theorem dX8_perfect_13 : decode cX8_perfect 13 = .ok (.getfield 19, 3) := by decide +kernel
theorem dX8_perfect_16 : decode cX8_perfect 16 = .ok (.getfield 152, 3) := by decide +kernel
theorem dX8_perfect_19 : decode cX8_perfect 19 = .ok (.ifCond .ne 6, 3) := by decide +kernel
theorem dX8_perfect_22 : decode cX8_perfect 22 = .ok (.bipush (-5), 2) := by decide +kernel
theorem dX8_perfect_24 : decode cX8_perfect 24 = .ok (.ireturn, 1) := by decide +kernel
theorem dX8_perfect_25 : decode cX8_perfect 25 = .ok (.aload_n 0, 1) := by decide +kernel
theorem dX8_perfect_26 : decode cX8_perfect 26 = .ok (.getfield 67, 3) := by decide +kernel
theorem dX8_perfect_29 : decode cX8_perfect 29 = .ok (.getfield 288, 3) := by decide +kernel
theorem dX8_perfect_32 : decode cX8_perfect 32 = .ok (.iload_n 1, 1) := by decide +kernel
theorem dX8_perfect_33 : decode cX8_perfect 33 = .ok (.if_icmp .eq 26, 3) := by decide +kernel
theorem dX8_perfect_36 : decode cX8_perfect 36 = .ok (.aload_n 0, 1) := by decide +kernel
theorem dX8_perfect_37 : decode cX8_perfect 37 = .ok (.invokevirtual 145, 3) := by decide +kernel
theorem dX8_perfect_40 : decode cX8_perfect 40 = .ok (.aload_n 0, 1) := by decide +kernel
theorem dX8_perfect_41 : decode cX8_perfect 41 = .ok (.getfield 67, 3) := by decide +kernel
theorem dX8_perfect_44 : decode cX8_perfect 44 = .ok (.aload_n 0, 1) := by decide +kernel
theorem dX8_perfect_45 : decode cX8_perfect 45 = .ok (.getfield 46, 3) := by decide +kernel
theorem dX8_perfect_48 : decode cX8_perfect 48 = .ok (.aload_n 0, 1) := by decide +kernel
theorem dX8_perfect_49 : decode cX8_perfect 49 = .ok (.getfield 19, 3) := by decide +kernel
theorem dX8_perfect_52 : decode cX8_perfect 52 = .ok (.getfield 152, 3) := by decide +kernel
theorem dX8_perfect_55 : decode cX8_perfect 55 = .ok (.iload_n 1, 1) := by decide +kernel
theorem dX8_perfect_56 : decode cX8_perfect 56 = .ok (.invokevirtual 291, 3) := by decide +kernel
theorem dX8_perfect_59 : decode cX8_perfect 59 = .ok (.aload_n 0, 1) := by decide +kernel
theorem dX8_perfect_60 : decode cX8_perfect 60 = .ok (.getfield 67, 3) := by decide +kernel
theorem dX8_perfect_63 : decode cX8_perfect 63 = .ok (.getfield 295, 3) := by decide +kernel
theorem dX8_perfect_66 : decode cX8_perfect 66 = .ok (.ireturn, 1) := by decide +kernel
theorem dX8_heap_0 : decode cX8_heap 0 = .ok (.aload_n 0, 1) := by decide +kernel
theorem dX8_heap_1 : decode cX8_heap 1 = .ok (.iload_n 1, 1) := by decide +kernel
theorem dX8_heap_2 : decode cX8_heap 2 = .ok (.invokevirtual 298, 3) := by decide +kernel
theorem dX8_heap_5 : decode cX8_heap 5 = .ok (.istore_n 3, 1) := by decide +kernel
theorem dX8_heap_6 : decode cX8_heap 6 = .ok (.iload_n 3, 1) := by decide +kernel
theorem dX8_heap_7 : decode cX8_heap 7 = .ok (.ifCond .ge 5, 3) := by decide +kernel
theorem dX8_heap_10 : decode cX8_heap 10 = .ok (.iload_n 3, 1) := by decide +kernel
theorem dX8_heap_11 : decode cX8_heap 11 = .ok (.ireturn, 1) := by decide +kernel
theorem dX8_heap_12 : decode cX8_heap 12 = .ok (.iload_n 2, 1) := by decide +kernel
theorem dX8_heap_13 : decode cX8_heap 13 = .ok (.ifCond .lt 8, 3) := by decide +kernel
theorem dX8_heap_16 : decode cX8_heap 16 = .ok (.iload_n 2, 1) := by decide +kernel
theorem dX8_heap_17 : decode cX8_heap 17 = .ok (.iload_n 3, 1) := by decide +kernel
theorem dX8_heap_18 : decode cX8_heap 18 = .ok (.if_icmp .lt 8, 3) := by decide +kernel
theorem dX8_heap_21 : decode cX8_heap 21 = .ok (.bipush (-8), 2) := by decide +kernel
theorem dX8_heap_23 : decode cX8_heap 23 = .ok (.goto 12, 3) := by decide +kernel
theorem dX8_heap_26 : decode cX8_heap 26 = .ok (.aload_n 0, 1) := by decide +kernel
theorem dX8_heap_27 : decode cX8_heap 27 = .ok (.getfield 67, 3) := by decide +kernel
theorem dX8_heap_30 : decode cX8_heap 30 = .ok (.getfield 301, 3) := by decide +kernel
theorem dX8_heap_33 : decode cX8_heap 33 = .ok (.iload_n 2, 1) := by decide +kernel
theorem dX8_heap_34 : decode cX8_heap 34 = .ok (.iaload, 1) := by decide +kernel
theorem dX8_heap_35 : decode cX8_heap 35 = .ok (.ireturn, 1) := by decide +kernel
theorem dX8_kinds_0 : decode cX8_kinds 0 = .ok (.aload_n 0, 1) := by decide +kernel
theorem dX8_kinds_1 : decode cX8_kinds 1 = .ok (.getfield 74, 3) := by decide +kernel
theorem dX8_kinds_4 : decode cX8_kinds 4 = .ok (.aload_n 0, 1) := by decide +kernel
theorem dX8_kinds_5 : decode cX8_kinds 5 = .ok (.getfield 19, 3) := by decide +kernel
theorem dX8_kinds_8 : decode cX8_kinds 8 = .ok (.invokevirtual 304, 3) := by decide +kernel
theorem dX8_kinds_11 : decode cX8_kinds 11 = .ok (.aload_n 0, 1) := by decide +kernel
theorem dX8_kinds_12 : decode cX8_kinds 12 = .ok (.getfield 74, 3) := by decide +kernel
theorem dX8_kinds_15 : decode cX8_kinds 15 = .ok (.getfield 307, 3) := by decide +kernel
theorem dX8_kinds_18 : decode cX8_kinds 18 = .ok (.ireturn, 1) := by decide +kernel
theorem dX8_kind_0 : decode cX8_kind 0 = .ok (.aload_n 0, 1) := by decide +kernel
theorem dX8_kind_1 : decode cX8_kind 1 = .ok (.getfield 19, 3) := by decide +kernel
theorem dX8_kind_4 : decode cX8_kind 4 = .ok (.iload_n 1, 1) := by decide +kernel
theorem dX8_kind_5 : decode cX8_kind 5 = .ok (.invokevirtual 144, 3) := by decide +kernel
theorem dX8_kind_8 : decode cX8_kind 8 = .ok (.ifCond .eq 14, 3) := by decide +kernel
theorem dX8_kind_11 : decode cX8_kind 11 = .ok (.aload_n 0, 1) := by decide +kernel
theorem dX8_kind_12 : decode cX8_kind 12 = .ok (.getfield 19, 3) := by decide +kernel
theorem dX8_kind_15 : decode cX8_kind 15 = .ok (.iload_n 2, 1) := by decide +kernel
theorem dX8_kind_16 : decode cX8_kind 16 = .ok (.invokevirtual 144, 3) := by decide +kernel
theorem dX8_kind_19 : decode cX8_kind 19 = .ok (.ifCond .ne 5, 3) := by decide +kernel
theorem dX8_kind_22 : decode cX8_kind 22 = .ok (.iconst (-1), 1) := by decide +kernel
theorem dX8_kind_23 : decode cX8_kind 23 = .ok (.ireturn, 1) := by decide +kernel
theorem dX8_kind_24 : decode cX8_kind 24 = .ok (.aload_n 0, 1) := by decide +kernel
theorem dX8_kind_25 : decode cX8_kind 25 = .ok (.getfield 74, 3) := by decide +kernel
theorem dX8_kind_28 : decode cX8_kind 28 = .ok (.aload_n 0, 1) := by decide +kernel
theorem dX8_kind_29 : decode cX8_kind 29 = .ok (.getfield 19, 3) := by decide +kernel
theorem dX8_kind_32 : decode cX8_kind 32 = .ok (.invokevirtual 304, 3) := by decide +kernel
theorem dX8_kind_35 : decode cX8_kind 35 = .ok (.aload_n 0, 1) := by decide +kernel
theorem dX8_kind_36 : decode cX8_kind 36 = .ok (.getfield 74, 3) := by decide +kernel
theorem dX8_kind_39 : decode cX8_kind 39 = .ok (.iload_n 1, 1) := by decide +kernel
theorem dX8_kind_40 : decode cX8_kind 40 = .ok (.iload_n 2, 1) := by decide +kernel
theorem dX8_kind_41 : decode cX8_kind 41 = .ok (.invokevirtual 310, 3) := by decide +kernel
theorem dX8_kind_44 : decode cX8_kind 44 = .ok (.ireturn, 1) := by decide +kernel
theorem dX8_isSheet_0 : decode cX8_isSheet 0 = .ok (.iload_n 0, 1) := by decide +kernel
theorem dX8_isSheet_1 : decode cX8_isSheet 1 = .ok (.ifCond .lt 12, 3) := by decide +kernel
theorem dX8_isSheet_4 : decode cX8_isSheet 4 = .ok (.iload_n 0, 1) := by decide +kernel
theorem dX8_isSheet_5 : decode cX8_isSheet 5 = .ok (.iconst 4, 1) := by decide +kernel
theorem dX8_isSheet_6 : decode cX8_isSheet 6 = .ok (.if_icmp .ge 7, 3) := by decide +kernel
theorem dX8_isSheet_9 : decode cX8_isSheet 9 = .ok (.iconst 1, 1) := by decide +kernel
theorem dX8_isSheet_10 : decode cX8_isSheet 10 = .ok (.goto 4, 3) := by decide +kernel
theorem dX8_isSheet_13 : decode cX8_isSheet 13 = .ok (.iconst 0, 1) := by decide +kernel
theorem dX8_isSheet_14 : decode cX8_isSheet 14 = .ok (.ireturn, 1) := by decide +kernel
theorem dX8_mayLoad_0 : decode cX8_mayLoad 0 = .ok (.iload_n 2, 1) := by decide +kernel
theorem dX8_mayLoad_1 : decode cX8_mayLoad 1 = .ok (.ifCond .lt 25, 3) := by decide +kernel
theorem dX8_mayLoad_4 : decode cX8_mayLoad 4 = .ok (.iload_n 3, 1) := by decide +kernel
theorem dX8_mayLoad_5 : decode cX8_mayLoad 5 = .ok (.ifCond .lt 21, 3) := by decide +kernel
theorem dX8_mayLoad_8 : decode cX8_mayLoad 8 = .ok (.iload_n 2, 1) := by decide +kernel
theorem dX8_mayLoad_9 : decode cX8_mayLoad 9 = .ok (.i2l, 1) := by decide +kernel
theorem dX8_mayLoad_10 : decode cX8_mayLoad 10 = .ok (.ldc2_w 313, 3) := by decide +kernel
theorem dX8_mayLoad_13 : decode cX8_mayLoad 13 = .ok (.iload_n 3, 1) := by decide +kernel
theorem dX8_mayLoad_14 : decode cX8_mayLoad 14 = .ok (.i2l, 1) := by decide +kernel
theorem dX8_mayLoad_15 : decode cX8_mayLoad 15 = .ok (.lmul, 1) := by decide +kernel
theorem dX8_mayLoad_16 : decode cX8_mayLoad 16 = .ok (.ladd, 1) := by decide +kernel
theorem dX8_mayLoad_17 : decode cX8_mayLoad 17 = .ok (.aload_n 1, 1) := by decide +kernel
theorem dX8_mayLoad_18 : decode cX8_mayLoad 18 = .ok (.getfield 315, 3) := by decide +kernel
theorem dX8_mayLoad_21 : decode cX8_mayLoad 21 = .ok (.i2l, 1) := by decide +kernel
theorem dX8_mayLoad_22 : decode cX8_mayLoad 22 = .ok (.lcmp, 1) := by decide +kernel
theorem dX8_mayLoad_23 : decode cX8_mayLoad 23 = .ok (.ifCond .le 5, 3) := by decide +kernel
theorem dX8_mayLoad_26 : decode cX8_mayLoad 26 = .ok (.iconst 0, 1) := by decide +kernel
theorem dX8_mayLoad_27 : decode cX8_mayLoad 27 = .ok (.ireturn, 1) := by decide +kernel
theorem dX8_mayLoad_28 : decode cX8_mayLoad 28 = .ok (.iconst 0, 1) := by decide +kernel
theorem dX8_mayLoad_29 : decode cX8_mayLoad 29 = .ok (.istore 4, 2) := by decide +kernel
theorem dX8_mayLoad_31 : decode cX8_mayLoad 31 = .ok (.iload 4, 2) := by decide +kernel
theorem dX8_mayLoad_33 : decode cX8_mayLoad 33 = .ok (.iload_n 3, 1) := by decide +kernel
theorem dX8_mayLoad_34 : decode cX8_mayLoad 34 = .ok (.if_icmp .ge 43, 3) := by decide +kernel
theorem dX8_mayLoad_37 : decode cX8_mayLoad 37 = .ok (.iload_n 2, 1) := by decide +kernel
theorem dX8_mayLoad_38 : decode cX8_mayLoad 38 = .ok (.iconst 2, 1) := by decide +kernel
theorem dX8_mayLoad_39 : decode cX8_mayLoad 39 = .ok (.iload 4, 2) := by decide +kernel
theorem dX8_mayLoad_41 : decode cX8_mayLoad 41 = .ok (.imul, 1) := by decide +kernel
theorem dX8_mayLoad_42 : decode cX8_mayLoad 42 = .ok (.iadd, 1) := by decide +kernel
theorem dX8_mayLoad_43 : decode cX8_mayLoad 43 = .ok (.istore 5, 2) := by decide +kernel
theorem dX8_mayLoad_45 : decode cX8_mayLoad 45 = .ok (.aload_n 0, 1) := by decide +kernel
theorem dX8_mayLoad_46 : decode cX8_mayLoad 46 = .ok (.getfield 19, 3) := by decide +kernel
theorem dX8_mayLoad_49 : decode cX8_mayLoad 49 = .ok (.aload_n 1, 1) := by decide +kernel
theorem dX8_mayLoad_50 : decode cX8_mayLoad 50 = .ok (.iload 5, 2) := by decide +kernel
theorem dX8_mayLoad_52 : decode cX8_mayLoad 52 = .ok (.invokevirtual 124, 3) := by decide +kernel
theorem dX8_mayLoad_55 : decode cX8_mayLoad 55 = .ok (.aload_n 1, 1) := by decide +kernel
theorem dX8_mayLoad_56 : decode cX8_mayLoad 56 = .ok (.iload 5, 2) := by decide +kernel
theorem dX8_mayLoad_58 : decode cX8_mayLoad 58 = .ok (.iconst 1, 1) := by decide +kernel
theorem dX8_mayLoad_59 : decode cX8_mayLoad 59 = .ok (.iadd, 1) := by decide +kernel
theorem dX8_mayLoad_60 : decode cX8_mayLoad 60 = .ok (.invokevirtual 124, 3) := by decide +kernel
theorem dX8_mayLoad_63 : decode cX8_mayLoad 63 = .ok (.invokevirtual 103, 3) := by decide +kernel
theorem dX8_mayLoad_66 : decode cX8_mayLoad 66 = .ok (.ifCond .ne 5, 3) := by decide +kernel
theorem dX8_mayLoad_69 : decode cX8_mayLoad 69 = .ok (.iconst 0, 1) := by decide +kernel
theorem dX8_mayLoad_70 : decode cX8_mayLoad 70 = .ok (.ireturn, 1) := by decide +kernel
theorem dX8_mayLoad_71 : decode cX8_mayLoad 71 = .ok (.iinc 4 1, 3) := by decide +kernel
theorem dX8_mayLoad_74 : decode cX8_mayLoad 74 = .ok (.goto (-43), 3) := by decide +kernel
theorem dX8_mayLoad_77 : decode cX8_mayLoad 77 = .ok (.iconst 1, 1) := by decide +kernel
theorem dX8_mayLoad_78 : decode cX8_mayLoad 78 = .ok (.ireturn, 1) := by decide +kernel
theorem dX8_listRoads_0 : decode cX8_listRoads 0 = .ok (.iconst 0, 1) := by decide +kernel
theorem dX8_listRoads_1 : decode cX8_listRoads 1 = .ok (.istore_n 1, 1) := by decide +kernel
theorem dX8_listRoads_2 : decode cX8_listRoads 2 = .ok (.iconst 0, 1) := by decide +kernel
theorem dX8_listRoads_3 : decode cX8_listRoads 3 = .ok (.istore_n 2, 1) := by decide +kernel
theorem dX8_listRoads_4 : decode cX8_listRoads 4 = .ok (.iload_n 2, 1) := by decide +kernel
theorem dX8_listRoads_5 : decode cX8_listRoads 5 = .ok (.aload_n 0, 1) := by decide +kernel
theorem dX8_listRoads_6 : decode cX8_listRoads 6 = .ok (.getfield 19, 3) := by decide +kernel
theorem dX8_listRoads_9 : decode cX8_listRoads 9 = .ok (.getfield 152, 3) := by decide +kernel
theorem dX8_listRoads_12 : decode cX8_listRoads 12 = .ok (.if_icmp .ge 65, 3) := by decide +kernel
theorem dX8_listRoads_15 : decode cX8_listRoads 15 = .ok (.iload_n 2, 1) := by decide +kernel
theorem dX8_listRoads_16 : decode cX8_listRoads 16 = .ok (.iconst 1, 1) := by decide +kernel
theorem dX8_listRoads_17 : decode cX8_listRoads 17 = .ok (.iadd, 1) := by decide +kernel
theorem dX8_listRoads_18 : decode cX8_listRoads 18 = .ok (.istore_n 3, 1) := by decide +kernel
theorem dX8_listRoads_19 : decode cX8_listRoads 19 = .ok (.iload_n 3, 1) := by decide +kernel
theorem dX8_listRoads_20 : decode cX8_listRoads 20 = .ok (.aload_n 0, 1) := by decide +kernel
theorem dX8_listRoads_21 : decode cX8_listRoads 21 = .ok (.getfield 19, 3) := by decide +kernel
theorem dX8_listRoads_24 : decode cX8_listRoads 24 = .ok (.getfield 152, 3) := by decide +kernel
theorem dX8_listRoads_27 : decode cX8_listRoads 27 = .ok (.if_icmp .ge 44, 3) := by decide +kernel
theorem dX8_listRoads_30 : decode cX8_listRoads 30 = .ok (.aload_n 0, 1) := by decide +kernel
theorem dX8_listRoads_31 : decode cX8_listRoads 31 = .ok (.getfield 19, 3) := by decide +kernel
theorem dX8_listRoads_34 : decode cX8_listRoads 34 = .ok (.iload_n 2, 1) := by decide +kernel
theorem dX8_listRoads_35 : decode cX8_listRoads 35 = .ok (.iload_n 3, 1) := by decide +kernel
theorem dX8_listRoads_36 : decode cX8_listRoads 36 = .ok (.invokevirtual 107, 3) := by decide +kernel
theorem dX8_listRoads_39 : decode cX8_listRoads 39 = .ok (.ifCond .eq 26, 3) := by decide +kernel
theorem dX8_listRoads_42 : decode cX8_listRoads 42 = .ok (.iload_n 1, 1) := by decide +kernel
theorem dX8_listRoads_43 : decode cX8_listRoads 43 = .ok (.bipush 32, 2) := by decide +kernel
theorem dX8_listRoads_45 : decode cX8_listRoads 45 = .ok (.if_icmp .ge 20, 3) := by decide +kernel
theorem dX8_listRoads_48 : decode cX8_listRoads 48 = .ok (.aload_n 0, 1) := by decide +kernel
theorem dX8_listRoads_49 : decode cX8_listRoads 49 = .ok (.getfield 29, 3) := by decide +kernel
theorem dX8_listRoads_52 : decode cX8_listRoads 52 = .ok (.iload_n 1, 1) := by decide +kernel
theorem dX8_listRoads_53 : decode cX8_listRoads 53 = .ok (.iload_n 2, 1) := by decide +kernel
theorem dX8_listRoads_54 : decode cX8_listRoads 54 = .ok (.iastore, 1) := by decide +kernel
theorem dX8_listRoads_55 : decode cX8_listRoads 55 = .ok (.aload_n 0, 1) := by decide +kernel
theorem dX8_listRoads_56 : decode cX8_listRoads 56 = .ok (.getfield 33, 3) := by decide +kernel
theorem dX8_listRoads_59 : decode cX8_listRoads 59 = .ok (.iload_n 1, 1) := by decide +kernel
theorem dX8_listRoads_60 : decode cX8_listRoads 60 = .ok (.iload_n 3, 1) := by decide +kernel
theorem dX8_listRoads_61 : decode cX8_listRoads 61 = .ok (.iastore, 1) := by decide +kernel
theorem dX8_listRoads_62 : decode cX8_listRoads 62 = .ok (.iinc 1 1, 3) := by decide +kernel
theorem dX8_listRoads_65 : decode cX8_listRoads 65 = .ok (.iinc 3 1, 3) := by decide +kernel
theorem dX8_listRoads_68 : decode cX8_listRoads 68 = .ok (.goto (-49), 3) := by decide +kernel
theorem dX8_listRoads_71 : decode cX8_listRoads 71 = .ok (.iinc 2 1, 3) := by decide +kernel
theorem dX8_listRoads_74 : decode cX8_listRoads 74 = .ok (.goto (-70), 3) := by decide +kernel
theorem dX8_listRoads_77 : decode cX8_listRoads 77 = .ok (.return_, 1) := by decide +kernel
theorem dX8_adopt_0 : decode cX8_adopt 0 = .ok (.aload_n 0, 1) := by decide +kernel
theorem dX8_adopt_1 : decode cX8_adopt 1 = .ok (.getfield 19, 3) := by decide +kernel
theorem dX8_adopt_4 : decode cX8_adopt 4 = .ok (.aload_n 0, 1) := by decide +kernel
theorem dX8_adopt_5 : decode cX8_adopt 5 = .ok (.getfield 23, 3) := by decide +kernel
theorem dX8_adopt_8 : decode cX8_adopt 8 = .ok (.invokevirtual 281, 3) := by decide +kernel
theorem dX8_adopt_11 : decode cX8_adopt 11 = .ok (.aload_n 0, 1) := by decide +kernel
theorem dX8_adopt_12 : decode cX8_adopt 12 = .ok (.invokevirtual 100, 3) := by decide +kernel
theorem dX8_adopt_15 : decode cX8_adopt 15 = .ok (.aload_n 0, 1) := by decide +kernel
theorem dX8_adopt_16 : decode cX8_adopt 16 = .ok (.getfield 19, 3) := by decide +kernel
theorem dX8_adopt_19 : decode cX8_adopt 19 = .ok (.getfield 152, 3) := by decide +kernel
theorem dX8_adopt_22 : decode cX8_adopt 22 = .ok (.ireturn, 1) := by decide +kernel
theorem dX8_forget_0 : decode cX8_forget 0 = .ok (.aload_n 0, 1) := by decide +kernel
theorem dX8_forget_1 : decode cX8_forget 1 = .ok (.getfield 46, 3) := by decide +kernel
theorem dX8_forget_4 : decode cX8_forget 4 = .ok (.iconst 0, 1) := by decide +kernel
theorem dX8_forget_5 : decode cX8_forget 5 = .ok (.putfield 316, 3) := by decide +kernel
theorem dX8_forget_8 : decode cX8_forget 8 = .ok (.aload_n 0, 1) := by decide +kernel
theorem dX8_forget_9 : decode cX8_forget 9 = .ok (.getfield 53, 3) := by decide +kernel
theorem dX8_forget_12 : decode cX8_forget 12 = .ok (.iconst 0, 1) := by decide +kernel
theorem dX8_forget_13 : decode cX8_forget 13 = .ok (.putfield 319, 3) := by decide +kernel
theorem dX8_forget_16 : decode cX8_forget 16 = .ok (.aload_n 0, 1) := by decide +kernel
theorem dX8_forget_17 : decode cX8_forget 17 = .ok (.getfield 74, 3) := by decide +kernel
theorem dX8_forget_20 : decode cX8_forget 20 = .ok (.iconst 0, 1) := by decide +kernel
theorem dX8_forget_21 : decode cX8_forget 21 = .ok (.putfield 320, 3) := by decide +kernel
theorem dX8_forget_24 : decode cX8_forget 24 = .ok (.aload_n 0, 1) := by decide +kernel
theorem dX8_forget_25 : decode cX8_forget 25 = .ok (.getfield 67, 3) := by decide +kernel
theorem dX8_forget_28 : decode cX8_forget 28 = .ok (.iconst (-1), 1) := by decide +kernel
theorem dX8_forget_29 : decode cX8_forget 29 = .ok (.putfield 288, 3) := by decide +kernel
theorem dX8_forget_32 : decode cX8_forget 32 = .ok (.return_, 1) := by decide +kernel
theorem dX8_measure_0 : decode cX8_measure 0 = .ok (.aload_n 0, 1) := by decide +kernel
theorem dX8_measure_1 : decode cX8_measure 1 = .ok (.getfield 46, 3) := by decide +kernel
theorem dX8_measure_4 : decode cX8_measure 4 = .ok (.getfield 316, 3) := by decide +kernel
theorem dX8_measure_7 : decode cX8_measure 7 = .ok (.ifCond .ne 14, 3) := by decide +kernel
theorem dX8_measure_10 : decode cX8_measure 10 = .ok (.aload_n 0, 1) := by decide +kernel
theorem dX8_measure_11 : decode cX8_measure 11 = .ok (.getfield 46, 3) := by decide +kernel
theorem dX8_measure_14 : decode cX8_measure 14 = .ok (.aload_n 0, 1) := by decide +kernel
theorem dX8_measure_15 : decode cX8_measure 15 = .ok (.getfield 19, 3) := by decide +kernel
theorem dX8_measure_18 : decode cX8_measure 18 = .ok (.invokevirtual 321, 3) := by decide +kernel
theorem dX8_measure_21 : decode cX8_measure 21 = .ok (.return_, 1) := by decide +kernel
theorem dX8_isLike_0 : decode cX8_isLike 0 = .ok (.aload_n 0, 1) := by decide +kernel
theorem dX8_isLike_1 : decode cX8_isLike 1 = .ok (.getfield 53, 3) := by decide +kernel
theorem dX8_isLike_4 : decode cX8_isLike 4 = .ok (.getfield 319, 3) := by decide +kernel
theorem dX8_isLike_7 : decode cX8_isLike 7 = .ok (.ifCond .ne 22, 3) := by decide +kernel
theorem dX8_isLike_10 : decode cX8_isLike 10 = .ok (.aload_n 0, 1) := by decide +kernel
theorem dX8_isLike_11 : decode cX8_isLike 11 = .ok (.invokevirtual 145, 3) := by decide +kernel
theorem dX8_isLike_14 : decode cX8_isLike 14 = .ok (.aload_n 0, 1) := by decide +kernel
theorem dX8_isLike_15 : decode cX8_isLike 15 = .ok (.getfield 53, 3) := by decide +kernel
theorem dX8_isLike_18 : decode cX8_isLike 18 = .ok (.aload_n 0, 1) := by decide +kernel
theorem dX8_isLike_19 : decode cX8_isLike 19 = .ok (.getfield 19, 3) := by decide +kernel
theorem dX8_isLike_22 : decode cX8_isLike 22 = .ok (.aload_n 0, 1) := by decide +kernel
theorem dX8_isLike_23 : decode cX8_isLike 23 = .ok (.getfield 46, 3) := by decide +kernel
theorem dX8_isLike_26 : decode cX8_isLike 26 = .ok (.invokevirtual 323, 3) := by decide +kernel
theorem dX8_isLike_29 : decode cX8_isLike 29 = .ok (.aload_n 0, 1) := by decide +kernel
theorem dX8_isLike_30 : decode cX8_isLike 30 = .ok (.getfield 53, 3) := by decide +kernel
theorem dX8_isLike_33 : decode cX8_isLike 33 = .ok (.getfield 327, 3) := by decide +kernel
theorem dX8_isLike_36 : decode cX8_isLike 36 = .ok (.ireturn, 1) := by decide +kernel
theorem dX8_oneIf_0 : decode cX8_oneIf 0 = .ok (.iload_n 0, 1) := by decide +kernel
theorem dX8_oneIf_1 : decode cX8_oneIf 1 = .ok (.ifCond .eq 7, 3) := by decide +kernel
theorem dX8_oneIf_4 : decode cX8_oneIf 4 = .ok (.iconst 1, 1) := by decide +kernel
theorem dX8_oneIf_5 : decode cX8_oneIf 5 = .ok (.goto 4, 3) := by decide +kernel
theorem dX8_oneIf_8 : decode cX8_oneIf 8 = .ok (.iconst 0, 1) := by decide +kernel
theorem dX8_oneIf_9 : decode cX8_oneIf 9 = .ok (.ireturn, 1) := by decide +kernel
theorem dX8_allOf_0 : decode cX8_allOf 0 = .ok (.iload_n 0, 1) := by decide +kernel
theorem dX8_allOf_1 : decode cX8_allOf 1 = .ok (.ifCond .gt 7, 3) := by decide +kernel
theorem dX8_allOf_4 : decode cX8_allOf 4 = .ok (.iconst 0, 1) := by decide +kernel
theorem dX8_allOf_5 : decode cX8_allOf 5 = .ok (.goto 9, 3) := by decide +kernel
theorem dX8_allOf_8 : decode cX8_allOf 8 = .ok (.iconst (-1), 1) := by decide +kernel
theorem dX8_allOf_9 : decode cX8_allOf 9 = .ok (.bipush 32, 2) := by decide +kernel
theorem dX8_allOf_11 : decode cX8_allOf 11 = .ok (.iload_n 0, 1) := by decide +kernel
theorem dX8_allOf_12 : decode cX8_allOf 12 = .ok (.isub, 1) := by decide +kernel
theorem dX8_allOf_13 : decode cX8_allOf 13 = .ok (.iushr, 1) := by decide +kernel
theorem dX8_allOf_14 : decode cX8_allOf 14 = .ok (.ireturn, 1) := by decide +kernel
theorem dX8_lowestBit_0 : decode cX8_lowestBit 0 = .ok (.iload_n 0, 1) := by decide +kernel
theorem dX8_lowestBit_1 : decode cX8_lowestBit 1 = .ok (.iload_n 0, 1) := by decide +kernel
theorem dX8_lowestBit_2 : decode cX8_lowestBit 2 = .ok (.ineg, 1) := by decide +kernel
theorem dX8_lowestBit_3 : decode cX8_lowestBit 3 = .ok (.iand, 1) := by decide +kernel
theorem dX8_lowestBit_4 : decode cX8_lowestBit 4 = .ok (.iconst 1, 1) := by decide +kernel
theorem dX8_lowestBit_5 : decode cX8_lowestBit 5 = .ok (.isub, 1) := by decide +kernel
theorem dX8_lowestBit_6 : decode cX8_lowestBit 6 = .ok (.invokestatic 204, 3) := by decide +kernel
theorem dX8_lowestBit_9 : decode cX8_lowestBit 9 = .ok (.ireturn, 1) := by decide +kernel
theorem dX8_isIn_0 : decode cX8_isIn 0 = .ok (.iload_n 0, 1) := by decide +kernel
theorem dX8_isIn_1 : decode cX8_isIn 1 = .ok (.iload_n 1, 1) := by decide +kernel
theorem dX8_isIn_2 : decode cX8_isIn 2 = .ok (.iushr, 1) := by decide +kernel
theorem dX8_isIn_3 : decode cX8_isIn 3 = .ok (.iconst 1, 1) := by decide +kernel
theorem dX8_isIn_4 : decode cX8_isIn 4 = .ok (.iand, 1) := by decide +kernel
theorem dX8_isIn_5 : decode cX8_isIn 5 = .ok (.ifCond .eq 7, 3) := by decide +kernel
theorem dX8_isIn_8 : decode cX8_isIn 8 = .ok (.iconst 1, 1) := by decide +kernel
theorem dX8_isIn_9 : decode cX8_isIn 9 = .ok (.goto 4, 3) := by decide +kernel
theorem dX8_isIn_12 : decode cX8_isIn 12 = .ok (.iconst 0, 1) := by decide +kernel
theorem dX8_isIn_13 : decode cX8_isIn 13 = .ok (.ireturn, 1) := by decide +kernel
theorem dX9_init_0 : decode cX9_init 0 = .ok (.aload_n 0, 1) := by decide +kernel
theorem dX9_init_1 : decode cX9_init 1 = .ok (.invokespecial 1, 3) := by decide +kernel
theorem dX9_init_4 : decode cX9_init 4 = .ok (.aload_n 0, 1) := by decide +kernel
theorem dX9_init_5 : decode cX9_init 5 = .ok (.iconst 4, 1) := by decide +kernel
theorem dX9_init_6 : decode cX9_init 6 = .ok (.newarray .int, 2) := by decide +kernel
theorem dX9_init_8 : decode cX9_init 8 = .ok (.putfield 7, 3) := by decide +kernel
theorem dX9_init_11 : decode cX9_init 11 = .ok (.aload_n 0, 1) := by decide +kernel
theorem dX9_init_12 : decode cX9_init 12 = .ok (.iconst 4, 1) := by decide +kernel
theorem dX9_init_13 : decode cX9_init 13 = .ok (.newarray .int, 2) := by decide +kernel
theorem dX9_init_15 : decode cX9_init 15 = .ok (.putfield 13, 3) := by decide +kernel
theorem dX9_init_18 : decode cX9_init 18 = .ok (.aload_n 0, 1) := by decide +kernel
theorem dX9_init_19 : decode cX9_init 19 = .ok (.sipush 240, 3) := by decide +kernel
theorem dX9_init_22 : decode cX9_init 22 = .ok (.newarray .int, 2) := by decide +kernel
theorem dX9_init_24 : decode cX9_init 24 = .ok (.putfield 16, 3) := by decide +kernel
theorem dX9_init_27 : decode cX9_init 27 = .ok (.aload_n 0, 1) := by decide +kernel
theorem dX9_init_28 : decode cX9_init 28 = .ok (.sipush 1024, 3) := by decide +kernel
theorem dX9_init_31 : decode cX9_init 31 = .ok (.newarray .boolean, 2) := by decide +kernel
theorem dX9_init_33 : decode cX9_init 33 = .ok (.putfield 19, 3) := by decide +kernel
theorem dX9_init_36 : decode cX9_init 36 = .ok (.aload_n 0, 1) := by decide +kernel
theorem dX9_init_37 : decode cX9_init 37 = .ok (.sipush 1024, 3) := by decide +kernel
theorem dX9_init_40 : decode cX9_init 40 = .ok (.newarray .boolean, 2) := by decide +kernel
theorem dX9_init_42 : decode cX9_init 42 = .ok (.putfield 23, 3) := by decide +kernel
theorem dX9_init_45 : decode cX9_init 45 = .ok (.aload_n 0, 1) := by decide +kernel
theorem dX9_init_46 : decode cX9_init 46 = .ok (.iconst 1, 1) := by decide +kernel
theorem dX9_init_47 : decode cX9_init 47 = .ok (.putfield 26, 3) := by decide +kernel
theorem dX9_init_50 : decode cX9_init 50 = .ok (.aload_n 0, 1) := by decide +kernel
theorem dX9_init_51 : decode cX9_init 51 = .ok (.bipush 6, 2) := by decide +kernel
theorem dX9_init_53 : decode cX9_init 53 = .ok (.newarray .int, 2) := by decide +kernel
theorem dX9_init_55 : decode cX9_init 55 = .ok (.putfield 30, 3) := by decide +kernel
theorem dX9_init_58 : decode cX9_init 58 = .ok (.aload_n 0, 1) := by decide +kernel
theorem dX9_init_59 : decode cX9_init 59 = .ok (.bipush 6, 2) := by decide +kernel
theorem dX9_init_61 : decode cX9_init 61 = .ok (.newarray .int, 2) := by decide +kernel
theorem dX9_init_63 : decode cX9_init 63 = .ok (.putfield 33, 3) := by decide +kernel
theorem dX9_init_66 : decode cX9_init 66 = .ok (.aload_n 0, 1) := by decide +kernel
theorem dX9_init_67 : decode cX9_init 67 = .ok (.bipush 33, 2) := by decide +kernel
theorem dX9_init_69 : decode cX9_init 69 = .ok (.newarray .int, 2) := by decide +kernel
theorem dX9_init_71 : decode cX9_init 71 = .ok (.putfield 36, 3) := by decide +kernel
theorem dX9_init_74 : decode cX9_init 74 = .ok (.aload_n 0, 1) := by decide +kernel
theorem dX9_init_75 : decode cX9_init 75 = .ok (.sipush 1024, 3) := by decide +kernel
theorem dX9_init_78 : decode cX9_init 78 = .ok (.newarray .int, 2) := by decide +kernel
theorem dX9_init_80 : decode cX9_init 80 = .ok (.putfield 39, 3) := by decide +kernel
theorem dX9_init_83 : decode cX9_init 83 = .ok (.aload_n 0, 1) := by decide +kernel
theorem dX9_init_84 : decode cX9_init 84 = .ok (.bipush 32, 2) := by decide +kernel
theorem dX9_init_86 : decode cX9_init 86 = .ok (.newarray .int, 2) := by decide +kernel
theorem dX9_init_88 : decode cX9_init 88 = .ok (.putfield 42, 3) := by decide +kernel
theorem dX9_init_91 : decode cX9_init 91 = .ok (.aload_n 0, 1) := by decide +kernel
theorem dX9_init_92 : decode cX9_init 92 = .ok (.bipush 33, 2) := by decide +kernel
theorem dX9_init_94 : decode cX9_init 94 = .ok (.newarray .int, 2) := by decide +kernel
theorem dX9_init_96 : decode cX9_init 96 = .ok (.putfield 45, 3) := by decide +kernel
theorem dX9_init_99 : decode cX9_init 99 = .ok (.aload_n 0, 1) := by decide +kernel
theorem dX9_init_100 : decode cX9_init 100 = .ok (.bipush 33, 2) := by decide +kernel
theorem dX9_init_102 : decode cX9_init 102 = .ok (.newarray .int, 2) := by decide +kernel
theorem dX9_init_104 : decode cX9_init 104 = .ok (.putfield 48, 3) := by decide +kernel
theorem dX9_init_107 : decode cX9_init 107 = .ok (.aload_n 0, 1) := by decide +kernel
theorem dX9_init_108 : decode cX9_init 108 = .ok (.bipush 33, 2) := by decide +kernel
theorem dX9_init_110 : decode cX9_init 110 = .ok (.newarray .int, 2) := by decide +kernel
theorem dX9_init_112 : decode cX9_init 112 = .ok (.putfield 51, 3) := by decide +kernel
theorem dX9_init_115 : decode cX9_init 115 = .ok (.aload_n 0, 1) := by decide +kernel
theorem dX9_init_116 : decode cX9_init 116 = .ok (.bipush 33, 2) := by decide +kernel
theorem dX9_init_118 : decode cX9_init 118 = .ok (.newarray .boolean, 2) := by decide +kernel
theorem dX9_init_120 : decode cX9_init 120 = .ok (.putfield 54, 3) := by decide +kernel
theorem dX9_init_123 : decode cX9_init 123 = .ok (.aload_n 0, 1) := by decide +kernel
theorem dX9_init_124 : decode cX9_init 124 = .ok (.bipush 6, 2) := by decide +kernel
theorem dX9_init_126 : decode cX9_init 126 = .ok (.newarray .long, 2) := by decide +kernel
theorem dX9_init_128 : decode cX9_init 128 = .ok (.putfield 57, 3) := by decide +kernel
theorem dX9_init_131 : decode cX9_init 131 = .ok (.aload_n 0, 1) := by decide +kernel
theorem dX9_init_132 : decode cX9_init 132 = .ok (.sipush 216, 3) := by decide +kernel
theorem dX9_init_135 : decode cX9_init 135 = .ok (.newarray .long, 2) := by decide +kernel
theorem dX9_init_137 : decode cX9_init 137 = .ok (.putfield 61, 3) := by decide +kernel
theorem dX9_init_140 : decode cX9_init 140 = .ok (.aload_n 0, 1) := by decide +kernel
theorem dX9_init_141 : decode cX9_init 141 = .ok (.bipush 6, 2) := by decide +kernel
theorem dX9_init_143 : decode cX9_init 143 = .ok (.newarray .long, 2) := by decide +kernel
theorem dX9_init_145 : decode cX9_init 145 = .ok (.putfield 64, 3) := by decide +kernel
theorem dX9_init_148 : decode cX9_init 148 = .ok (.aload_n 0, 1) := by decide +kernel
theorem dX9_init_149 : decode cX9_init 149 = .ok (.bipush 6, 2) := by decide +kernel
theorem dX9_init_151 : decode cX9_init 151 = .ok (.newarray .long, 2) := by decide +kernel
theorem dX9_init_153 : decode cX9_init 153 = .ok (.putfield 67, 3) := by decide +kernel
theorem dX9_init_156 : decode cX9_init 156 = .ok (.aload_n 0, 1) := by decide +kernel
theorem dX9_init_157 : decode cX9_init 157 = .ok (.bipush 6, 2) := by decide +kernel
theorem dX9_init_159 : decode cX9_init 159 = .ok (.newarray .long, 2) := by decide +kernel
theorem dX9_init_161 : decode cX9_init 161 = .ok (.putfield 70, 3) := by decide +kernel
theorem dX9_init_164 : decode cX9_init 164 = .ok (.aload_n 0, 1) := by decide +kernel
theorem dX9_init_165 : decode cX9_init 165 = .ok (.sipush 1024, 3) := by decide +kernel
theorem dX9_init_168 : decode cX9_init 168 = .ok (.newarray .boolean, 2) := by decide +kernel
theorem dX9_init_170 : decode cX9_init 170 = .ok (.putfield 73, 3) := by decide +kernel
theorem dX9_init_173 : decode cX9_init 173 = .ok (.aload_n 0, 1) := by decide +kernel
theorem dX9_init_174 : decode cX9_init 174 = .ok (.bipush 32, 2) := by decide +kernel
theorem dX9_init_176 : decode cX9_init 176 = .ok (.newarray .int, 2) := by decide +kernel
theorem dX9_init_178 : decode cX9_init 178 = .ok (.putfield 76, 3) := by decide +kernel
theorem dX9_init_181 : decode cX9_init 181 = .ok (.aload_n 0, 1) := by decide +kernel
theorem dX9_init_182 : decode cX9_init 182 = .ok (.bipush 32, 2) := by decide +kernel
theorem dX9_init_184 : decode cX9_init 184 = .ok (.newarray .int, 2) := by decide +kernel
theorem dX9_init_186 : decode cX9_init 186 = .ok (.putfield 79, 3) := by decide +kernel
theorem dX9_init_189 : decode cX9_init 189 = .ok (.aload_n 0, 1) := by decide +kernel
theorem dX9_init_190 : decode cX9_init 190 = .ok (.bipush 32, 2) := by decide +kernel
theorem dX9_init_192 : decode cX9_init 192 = .ok (.newarray .int, 2) := by decide +kernel
theorem dX9_init_194 : decode cX9_init 194 = .ok (.putfield 82, 3) := by decide +kernel
theorem dX9_init_197 : decode cX9_init 197 = .ok (.aload_n 0, 1) := by decide +kernel
theorem dX9_init_198 : decode cX9_init 198 = .ok (.bipush 33, 2) := by decide +kernel
theorem dX9_init_200 : decode cX9_init 200 = .ok (.newarray .int, 2) := by decide +kernel
theorem dX9_init_202 : decode cX9_init 202 = .ok (.putfield 85, 3) := by decide +kernel
theorem dX9_init_205 : decode cX9_init 205 = .ok (.aload_n 0, 1) := by decide +kernel
theorem dX9_init_206 : decode cX9_init 206 = .ok (.bipush 33, 2) := by decide +kernel
theorem dX9_init_208 : decode cX9_init 208 = .ok (.newarray .int, 2) := by decide +kernel
theorem dX9_init_210 : decode cX9_init 210 = .ok (.putfield 88, 3) := by decide +kernel
theorem dX9_init_213 : decode cX9_init 213 = .ok (.aload_n 0, 1) := by decide +kernel
theorem dX9_init_214 : decode cX9_init 214 = .ok (.bipush 32, 2) := by decide +kernel
theorem dX9_init_216 : decode cX9_init 216 = .ok (.newarray .int, 2) := by decide +kernel
theorem dX9_init_218 : decode cX9_init 218 = .ok (.putfield 91, 3) := by decide +kernel
theorem dX9_init_221 : decode cX9_init 221 = .ok (.aload_n 0, 1) := by decide +kernel
theorem dX9_init_222 : decode cX9_init 222 = .ok (.bipush 33, 2) := by decide +kernel
theorem dX9_init_224 : decode cX9_init 224 = .ok (.newarray .int, 2) := by decide +kernel
theorem dX9_init_226 : decode cX9_init 226 = .ok (.putfield 94, 3) := by decide +kernel
theorem dX9_init_229 : decode cX9_init 229 = .ok (.aload_n 0, 1) := by decide +kernel
theorem dX9_init_230 : decode cX9_init 230 = .ok (.sipush 1024, 3) := by decide +kernel
theorem dX9_init_233 : decode cX9_init 233 = .ok (.newarray .int, 2) := by decide +kernel
theorem dX9_init_235 : decode cX9_init 235 = .ok (.putfield 97, 3) := by decide +kernel
theorem dX9_init_238 : decode cX9_init 238 = .ok (.aload_n 0, 1) := by decide +kernel
theorem dX9_init_239 : decode cX9_init 239 = .ok (.sipush 1024, 3) := by decide +kernel
theorem dX9_init_242 : decode cX9_init 242 = .ok (.newarray .int, 2) := by decide +kernel
theorem dX9_init_244 : decode cX9_init 244 = .ok (.putfield 100, 3) := by decide +kernel
theorem dX9_init_247 : decode cX9_init 247 = .ok (.aload_n 0, 1) := by decide +kernel
theorem dX9_init_248 : decode cX9_init 248 = .ok (.ldc 103, 2) := by decide +kernel
theorem dX9_init_250 : decode cX9_init 250 = .ok (.newarray .int, 2) := by decide +kernel
theorem dX9_init_252 : decode cX9_init 252 = .ok (.putfield 104, 3) := by decide +kernel
theorem dX9_init_255 : decode cX9_init 255 = .ok (.aload_n 0, 1) := by decide +kernel
theorem dX9_init_256 : decode cX9_init 256 = .ok (.sipush 1024, 3) := by decide +kernel
theorem dX9_init_259 : decode cX9_init 259 = .ok (.newarray .int, 2) := by decide +kernel
theorem dX9_init_261 : decode cX9_init 261 = .ok (.putfield 107, 3) := by decide +kernel
theorem dX9_init_264 : decode cX9_init 264 = .ok (.iconst 0, 1) := by decide +kernel
theorem dX9_init_265 : decode cX9_init 265 = .ok (.istore_n 1, 1) := by decide +kernel
theorem dX9_init_266 : decode cX9_init 266 = .ok (.iload_n 1, 1) := by decide +kernel
theorem dX9_init_267 : decode cX9_init 267 = .ok (.iconst 4, 1) := by decide +kernel
theorem dX9_init_268 : decode cX9_init 268 = .ok (.if_icmp .ge 16, 3) := by decide +kernel
theorem dX9_init_271 : decode cX9_init 271 = .ok (.aload_n 0, 1) := by decide +kernel
theorem dX9_init_272 : decode cX9_init 272 = .ok (.getfield 13, 3) := by decide +kernel
theorem dX9_init_275 : decode cX9_init 275 = .ok (.iload_n 1, 1) := by decide +kernel
theorem dX9_init_276 : decode cX9_init 276 = .ok (.iconst (-1), 1) := by decide +kernel
theorem dX9_init_277 : decode cX9_init 277 = .ok (.iastore, 1) := by decide +kernel
theorem dX9_init_278 : decode cX9_init 278 = .ok (.iinc 1 1, 3) := by decide +kernel
theorem dX9_init_281 : decode cX9_init 281 = .ok (.goto (-15), 3) := by decide +kernel
theorem dX9_init_284 : decode cX9_init 284 = .ok (.aload_n 0, 1) := by decide +kernel
theorem dX9_init_285 : decode cX9_init 285 = .ok (.getfield 30, 3) := by decide +kernel
theorem dX9_init_288 : decode cX9_init 288 = .ok (.iconst 0, 1) := by decide +kernel
theorem dX9_init_289 : decode cX9_init 289 = .ok (.iconst 1, 1) := by decide +kernel
theorem dX9_init_290 : decode cX9_init 290 = .ok (.iastore, 1) := by decide +kernel
theorem dX9_init_291 : decode cX9_init 291 = .ok (.aload_n 0, 1) := by decide +kernel
theorem dX9_init_292 : decode cX9_init 292 = .ok (.getfield 33, 3) := by decide +kernel
theorem dX9_init_295 : decode cX9_init 295 = .ok (.iconst 1, 1) := by decide +kernel
theorem dX9_init_296 : decode cX9_init 296 = .ok (.iconst 1, 1) := by decide +kernel
theorem dX9_init_297 : decode cX9_init 297 = .ok (.iastore, 1) := by decide +kernel
theorem dX9_init_298 : decode cX9_init 298 = .ok (.return_, 1) := by decide +kernel
theorem dX9_in_0 : decode cX9_in 0 = .ok (.lload_n 0, 1) := by decide +kernel
theorem dX9_in_1 : decode cX9_in 1 = .ok (.lload_n 2, 1) := by decide +kernel
theorem dX9_in_2 : decode cX9_in 2 = .ok (.lcmp, 1) := by decide +kernel
theorem dX9_in_3 : decode cX9_in 3 = .ok (.ifCond .lt 14, 3) := by decide +kernel
theorem dX9_in_6 : decode cX9_in 6 = .ok (.lload_n 0, 1) := by decide +kernel
theorem dX9_in_7 : decode cX9_in 7 = .ok (.lload 4, 2) := by decide +kernel
theorem dX9_in_9 : decode cX9_in 9 = .ok (.lcmp, 1) := by decide +kernel
theorem dX9_in_10 : decode cX9_in 10 = .ok (.ifCond .gt 7, 3) := by decide +kernel
theorem dX9_in_13 : decode cX9_in 13 = .ok (.iconst 1, 1) := by decide +kernel
theorem dX9_in_14 : decode cX9_in 14 = .ok (.goto 4, 3) := by decide +kernel
theorem dX9_in_17 : decode cX9_in 17 = .ok (.iconst 0, 1) := by decide +kernel
theorem dX9_in_18 : decode cX9_in 18 = .ok (.ireturn, 1) := by decide +kernel
theorem dX9_isSheet_0 : decode cX9_isSheet 0 = .ok (.iload_n 0, 1) := by decide +kernel
theorem dX9_isSheet_1 : decode cX9_isSheet 1 = .ok (.i2l, 1) := by decide +kernel
theorem dX9_isSheet_2 : decode cX9_isSheet 2 = .ok (.lconst 0, 1) := by decide +kernel
theorem dX9_isSheet_3 : decode cX9_isSheet 3 = .ok (.ldc2_w 110, 3) := by decide +kernel
theorem dX9_isSheet_6 : decode cX9_isSheet 6 = .ok (.invokestatic 112, 3) := by decide +kernel
theorem dX9_isSheet_9 : decode cX9_isSheet 9 = .ok (.ireturn, 1) := by decide +kernel
theorem dX9_isPost_0 : decode cX9_isPost 0 = .ok (.iload_n 1, 1) := by decide +kernel
theorem dX9_isPost_1 : decode cX9_isPost 1 = .ok (.i2l, 1) := by decide +kernel
theorem dX9_isPost_2 : decode cX9_isPost 2 = .ok (.lconst 0, 1) := by decide +kernel
theorem dX9_isPost_3 : decode cX9_isPost 3 = .ok (.aload_n 0, 1) := by decide +kernel
theorem dX9_isPost_4 : decode cX9_isPost 4 = .ok (.getfield 116, 3) := by decide +kernel
theorem dX9_isPost_7 : decode cX9_isPost 7 = .ok (.iconst 1, 1) := by decide +kernel
theorem dX9_isPost_8 : decode cX9_isPost 8 = .ok (.isub, 1) := by decide +kernel
theorem dX9_isPost_9 : decode cX9_isPost 9 = .ok (.i2l, 1) := by decide +kernel
theorem dX9_isPost_10 : decode cX9_isPost 10 = .ok (.invokestatic 112, 3) := by decide +kernel
theorem dX9_isPost_13 : decode cX9_isPost 13 = .ok (.ireturn, 1) := by decide +kernel
theorem dX9_sheet_0 : decode cX9_sheet 0 = .ok (.iload_n 1, 1) := by decide +kernel
theorem dX9_sheet_1 : decode cX9_sheet 1 = .ok (.invokestatic 119, 3) := by decide +kernel
theorem dX9_sheet_4 : decode cX9_sheet 4 = .ok (.ifCond .eq 15, 3) := by decide +kernel
theorem dX9_sheet_7 : decode cX9_sheet 7 = .ok (.iload_n 2, 1) := by decide +kernel
theorem dX9_sheet_8 : decode cX9_sheet 8 = .ok (.i2l, 1) := by decide +kernel
theorem dX9_sheet_9 : decode cX9_sheet 9 = .ok (.lconst 0, 1) := by decide +kernel
theorem dX9_sheet_10 : decode cX9_sheet 10 = .ok (.ldc2_w 123, 3) := by decide +kernel
theorem dX9_sheet_13 : decode cX9_sheet 13 = .ok (.invokestatic 112, 3) := by decide +kernel
theorem dX9_sheet_16 : decode cX9_sheet 16 = .ok (.ifCond .ne 5, 3) := by decide +kernel
theorem dX9_sheet_19 : decode cX9_sheet 19 = .ok (.iconst (-1), 1) := by decide +kernel
theorem dX9_sheet_20 : decode cX9_sheet 20 = .ok (.ireturn, 1) := by decide +kernel
theorem dX9_sheet_21 : decode cX9_sheet 21 = .ok (.iload_n 3, 1) := by decide +kernel
theorem dX9_sheet_22 : decode cX9_sheet 22 = .ok (.ifCond .ge 6, 3) := by decide +kernel
theorem dX9_sheet_25 : decode cX9_sheet 25 = .ok (.bipush (-4), 2) := by decide +kernel
theorem dX9_sheet_27 : decode cX9_sheet 27 = .ok (.ireturn, 1) := by decide +kernel
theorem dX9_sheet_28 : decode cX9_sheet 28 = .ok (.iload_n 3, 1) := by decide +kernel
theorem dX9_sheet_29 : decode cX9_sheet 29 = .ok (.bipush 60, 2) := by decide +kernel
theorem dX9_sheet_31 : decode cX9_sheet 31 = .ok (.if_icmp .le 5, 3) := by decide +kernel
theorem dX9_sheet_34 : decode cX9_sheet 34 = .ok (.iconst (-1), 1) := by decide +kernel
theorem dX9_sheet_35 : decode cX9_sheet 35 = .ok (.ireturn, 1) := by decide +kernel
theorem dX9_sheet_36 : decode cX9_sheet 36 = .ok (.aload_n 0, 1) := by decide +kernel
theorem dX9_sheet_37 : decode cX9_sheet 37 = .ok (.getfield 7, 3) := by decide +kernel
theorem dX9_sheet_40 : decode cX9_sheet 40 = .ok (.iload_n 1, 1) := by decide +kernel
theorem dX9_sheet_41 : decode cX9_sheet 41 = .ok (.iload_n 2, 1) := by decide +kernel
theorem dX9_sheet_42 : decode cX9_sheet 42 = .ok (.iastore, 1) := by decide +kernel
theorem dX9_sheet_43 : decode cX9_sheet 43 = .ok (.aload_n 0, 1) := by decide +kernel
theorem dX9_sheet_44 : decode cX9_sheet 44 = .ok (.getfield 13, 3) := by decide +kernel
theorem dX9_sheet_47 : decode cX9_sheet 47 = .ok (.iload_n 1, 1) := by decide +kernel
theorem dX9_sheet_48 : decode cX9_sheet 48 = .ok (.iload_n 3, 1) := by decide +kernel
theorem dX9_sheet_49 : decode cX9_sheet 49 = .ok (.iastore, 1) := by decide +kernel
theorem dX9_sheet_50 : decode cX9_sheet 50 = .ok (.iconst 0, 1) := by decide +kernel
theorem dX9_sheet_51 : decode cX9_sheet 51 = .ok (.istore 4, 2) := by decide +kernel
theorem dX9_sheet_53 : decode cX9_sheet 53 = .ok (.iload 4, 2) := by decide +kernel
theorem dX9_sheet_55 : decode cX9_sheet 55 = .ok (.iload_n 3, 1) := by decide +kernel
theorem dX9_sheet_56 : decode cX9_sheet 56 = .ok (.if_icmp .ge 22, 3) := by decide +kernel
theorem dX9_sheet_59 : decode cX9_sheet 59 = .ok (.aload_n 0, 1) := by decide +kernel
theorem dX9_sheet_60 : decode cX9_sheet 60 = .ok (.getfield 16, 3) := by decide +kernel
theorem dX9_sheet_63 : decode cX9_sheet 63 = .ok (.bipush 60, 2) := by decide +kernel
theorem dX9_sheet_65 : decode cX9_sheet 65 = .ok (.iload_n 1, 1) := by decide +kernel
theorem dX9_sheet_66 : decode cX9_sheet 66 = .ok (.imul, 1) := by decide +kernel
theorem dX9_sheet_67 : decode cX9_sheet 67 = .ok (.iload 4, 2) := by decide +kernel
theorem dX9_sheet_69 : decode cX9_sheet 69 = .ok (.iadd, 1) := by decide +kernel
theorem dX9_sheet_70 : decode cX9_sheet 70 = .ok (.iconst 0, 1) := by decide +kernel
theorem dX9_sheet_71 : decode cX9_sheet 71 = .ok (.iastore, 1) := by decide +kernel
theorem dX9_sheet_72 : decode cX9_sheet 72 = .ok (.iinc 4 1, 3) := by decide +kernel
theorem dX9_sheet_75 : decode cX9_sheet 75 = .ok (.goto (-22), 3) := by decide +kernel
theorem dX9_sheet_78 : decode cX9_sheet 78 = .ok (.iconst 1, 1) := by decide +kernel
theorem dX9_sheet_79 : decode cX9_sheet 79 = .ok (.ireturn, 1) := by decide +kernel
theorem dX9_cell_0 : decode cX9_cell 0 = .ok (.iload_n 1, 1) := by decide +kernel
theorem dX9_cell_1 : decode cX9_cell 1 = .ok (.invokestatic 119, 3) := by decide +kernel
theorem dX9_cell_4 : decode cX9_cell 4 = .ok (.ifCond .ne 5, 3) := by decide +kernel
theorem dX9_cell_7 : decode cX9_cell 7 = .ok (.iconst (-1), 1) := by decide +kernel
theorem dX9_cell_8 : decode cX9_cell 8 = .ok (.ireturn, 1) := by decide +kernel
theorem dX9_cell_9 : decode cX9_cell 9 = .ok (.aload_n 0, 1) := by decide +kernel
theorem dX9_cell_10 : decode cX9_cell 10 = .ok (.getfield 13, 3) := by decide +kernel
theorem dX9_cell_13 : decode cX9_cell 13 = .ok (.iload_n 1, 1) := by decide +kernel
theorem dX9_cell_14 : decode cX9_cell 14 = .ok (.iaload, 1) := by decide +kernel
theorem dX9_cell_15 : decode cX9_cell 15 = .ok (.ifCond .ge 6, 3) := by decide +kernel
theorem dX9_cell_18 : decode cX9_cell 18 = .ok (.bipush (-3), 2) := by decide +kernel
theorem dX9_cell_20 : decode cX9_cell 20 = .ok (.ireturn, 1) := by decide +kernel
theorem dX9_cell_21 : decode cX9_cell 21 = .ok (.iload_n 2, 1) := by decide +kernel
theorem dX9_cell_22 : decode cX9_cell 22 = .ok (.i2l, 1) := by decide +kernel
theorem dX9_cell_23 : decode cX9_cell 23 = .ok (.lconst 0, 1) := by decide +kernel
theorem dX9_cell_24 : decode cX9_cell 24 = .ok (.aload_n 0, 1) := by decide +kernel
theorem dX9_cell_25 : decode cX9_cell 25 = .ok (.getfield 13, 3) := by decide +kernel
theorem dX9_cell_28 : decode cX9_cell 28 = .ok (.iload_n 1, 1) := by decide +kernel
theorem dX9_cell_29 : decode cX9_cell 29 = .ok (.iaload, 1) := by decide +kernel
theorem dX9_cell_30 : decode cX9_cell 30 = .ok (.iconst 1, 1) := by decide +kernel
theorem dX9_cell_31 : decode cX9_cell 31 = .ok (.isub, 1) := by decide +kernel
theorem dX9_cell_32 : decode cX9_cell 32 = .ok (.i2l, 1) := by decide +kernel
theorem dX9_cell_33 : decode cX9_cell 33 = .ok (.invokestatic 112, 3) := by decide +kernel
theorem dX9_cell_36 : decode cX9_cell 36 = .ok (.ifCond .ne 5, 3) := by decide +kernel
theorem dX9_cell_39 : decode cX9_cell 39 = .ok (.iconst (-1), 1) := by decide +kernel
theorem dX9_cell_40 : decode cX9_cell 40 = .ok (.ireturn, 1) := by decide +kernel
theorem dX9_cell_41 : decode cX9_cell 41 = .ok (.aload_n 0, 1) := by decide +kernel
theorem dX9_cell_42 : decode cX9_cell 42 = .ok (.getfield 16, 3) := by decide +kernel
theorem dX9_cell_45 : decode cX9_cell 45 = .ok (.bipush 60, 2) := by decide +kernel
theorem dX9_cell_47 : decode cX9_cell 47 = .ok (.iload_n 1, 1) := by decide +kernel
theorem dX9_cell_48 : decode cX9_cell 48 = .ok (.imul, 1) := by decide +kernel
theorem dX9_cell_49 : decode cX9_cell 49 = .ok (.iload_n 2, 1) := by decide +kernel
theorem dX9_cell_50 : decode cX9_cell 50 = .ok (.iadd, 1) := by decide +kernel
theorem dX9_cell_51 : decode cX9_cell 51 = .ok (.aload_n 0, 1) := by decide +kernel
theorem dX9_cell_52 : decode cX9_cell 52 = .ok (.getfield 7, 3) := by decide +kernel
theorem dX9_cell_55 : decode cX9_cell 55 = .ok (.iload_n 1, 1) := by decide +kernel
theorem dX9_cell_56 : decode cX9_cell 56 = .ok (.iaload, 1) := by decide +kernel
theorem dX9_cell_57 : decode cX9_cell 57 = .ok (.ifCond .ne 8, 3) := by decide +kernel
theorem dX9_cell_60 : decode cX9_cell 60 = .ok (.iload_n 3, 1) := by decide +kernel
theorem dX9_cell_61 : decode cX9_cell 61 = .ok (.i2b, 1) := by decide +kernel
theorem dX9_cell_62 : decode cX9_cell 62 = .ok (.goto 19, 3) := by decide +kernel
theorem dX9_cell_65 : decode cX9_cell 65 = .ok (.aload_n 0, 1) := by decide +kernel
theorem dX9_cell_66 : decode cX9_cell 66 = .ok (.getfield 7, 3) := by decide +kernel
theorem dX9_cell_69 : decode cX9_cell 69 = .ok (.iload_n 1, 1) := by decide +kernel
theorem dX9_cell_70 : decode cX9_cell 70 = .ok (.iaload, 1) := by decide +kernel
theorem dX9_cell_71 : decode cX9_cell 71 = .ok (.iconst 1, 1) := by decide +kernel
theorem dX9_cell_72 : decode cX9_cell 72 = .ok (.if_icmp .ne 8, 3) := by decide +kernel
theorem dX9_cell_75 : decode cX9_cell 75 = .ok (.iload_n 3, 1) := by decide +kernel
theorem dX9_cell_76 : decode cX9_cell 76 = .ok (.i2s, 1) := by decide +kernel
theorem dX9_cell_77 : decode cX9_cell 77 = .ok (.goto 4, 3) := by decide +kernel
theorem dX9_cell_80 : decode cX9_cell 80 = .ok (.iload_n 3, 1) := by decide +kernel
theorem dX9_cell_81 : decode cX9_cell 81 = .ok (.iastore, 1) := by decide +kernel
theorem dX9_cell_82 : decode cX9_cell 82 = .ok (.iconst 1, 1) := by decide +kernel
theorem dX9_cell_83 : decode cX9_cell 83 = .ok (.ireturn, 1) := by decide +kernel
theorem dX9_lose_0 : decode cX9_lose 0 = .ok (.iload_n 1, 1) := by decide +kernel
theorem dX9_lose_1 : decode cX9_lose 1 = .ok (.invokestatic 119, 3) := by decide +kernel
theorem dX9_lose_4 : decode cX9_lose 4 = .ok (.ifCond .ne 5, 3) := by decide +kernel
theorem dX9_lose_7 : decode cX9_lose 7 = .ok (.iconst (-1), 1) := by decide +kernel
theorem dX9_lose_8 : decode cX9_lose 8 = .ok (.ireturn, 1) := by decide +kernel
theorem dX9_lose_9 : decode cX9_lose 9 = .ok (.aload_n 0, 1) := by decide +kernel
theorem dX9_lose_10 : decode cX9_lose 10 = .ok (.getfield 13, 3) := by decide +kernel
theorem dX9_lose_13 : decode cX9_lose 13 = .ok (.iload_n 1, 1) := by decide +kernel
theorem dX9_lose_14 : decode cX9_lose 14 = .ok (.iaload, 1) := by decide +kernel
theorem dX9_lose_15 : decode cX9_lose 15 = .ok (.ifCond .ge 6, 3) := by decide +kernel
theorem dX9_lose_18 : decode cX9_lose 18 = .ok (.bipush (-3), 2) := by decide +kernel
theorem dX9_lose_20 : decode cX9_lose 20 = .ok (.ireturn, 1) := by decide +kernel
theorem dX9_lose_21 : decode cX9_lose 21 = .ok (.aload_n 0, 1) := by decide +kernel
theorem dX9_lose_22 : decode cX9_lose 22 = .ok (.getfield 13, 3) := by decide +kernel
theorem dX9_lose_25 : decode cX9_lose 25 = .ok (.iload_n 1, 1) := by decide +kernel
theorem dX9_lose_26 : decode cX9_lose 26 = .ok (.iconst (-1), 1) := by decide +kernel
theorem dX9_lose_27 : decode cX9_lose 27 = .ok (.iastore, 1) := by decide +kernel
theorem dX9_lose_28 : decode cX9_lose 28 = .ok (.iconst 1, 1) := by decide +kernel
theorem dX9_lose_29 : decode cX9_lose 29 = .ok (.ireturn, 1) := by decide +kernel
theorem dX9_fresh_0 : decode cX9_fresh 0 = .ok (.aload_n 0, 1) := by decide +kernel
theorem dX9_fresh_1 : decode cX9_fresh 1 = .ok (.iload_n 1, 1) := by decide +kernel
theorem dX9_fresh_2 : decode cX9_fresh 2 = .ok (.putfield 116, 3) := by decide +kernel
theorem dX9_fresh_5 : decode cX9_fresh 5 = .ok (.iconst 0, 1) := by decide +kernel
theorem dX9_fresh_6 : decode cX9_fresh 6 = .ok (.istore_n 2, 1) := by decide +kernel
theorem dX9_fresh_7 : decode cX9_fresh 7 = .ok (.iload_n 2, 1) := by decide +kernel
theorem dX9_fresh_8 : decode cX9_fresh 8 = .ok (.sipush 1024, 3) := by decide +kernel
theorem dX9_fresh_11 : decode cX9_fresh 11 = .ok (.if_icmp .ge 16, 3) := by decide +kernel
theorem dX9_fresh_14 : decode cX9_fresh 14 = .ok (.aload_n 0, 1) := by decide +kernel
theorem dX9_fresh_15 : decode cX9_fresh 15 = .ok (.getfield 19, 3) := by decide +kernel
theorem dX9_fresh_18 : decode cX9_fresh 18 = .ok (.iload_n 2, 1) := by decide +kernel
theorem dX9_fresh_19 : decode cX9_fresh 19 = .ok (.iconst 0, 1) := by decide +kernel
theorem dX9_fresh_20 : decode cX9_fresh 20 = .ok (.bastore, 1) := by decide +kernel
theorem dX9_fresh_21 : decode cX9_fresh 21 = .ok (.iinc 2 1, 3) := by decide +kernel
theorem dX9_fresh_24 : decode cX9_fresh 24 = .ok (.goto (-17), 3) := by decide +kernel
theorem dX9_fresh_27 : decode cX9_fresh 27 = .ok (.aload_n 0, 1) := by decide +kernel
theorem dX9_fresh_28 : decode cX9_fresh 28 = .ok (.iconst 0, 1) := by decide +kernel
theorem dX9_fresh_29 : decode cX9_fresh 29 = .ok (.putfield 125, 3) := by decide +kernel
theorem dX9_fresh_32 : decode cX9_fresh 32 = .ok (.aload_n 0, 1) := by decide +kernel
theorem dX9_fresh_33 : decode cX9_fresh 33 = .ok (.iconst 0, 1) := by decide +kernel
theorem dX9_fresh_34 : decode cX9_fresh 34 = .ok (.putfield 129, 3) := by decide +kernel
theorem dX9_fresh_37 : decode cX9_fresh 37 = .ok (.return_, 1) := by decide +kernel
theorem dX9_net_0 : decode cX9_net 0 = .ok (.iload_n 1, 1) := by decide +kernel
theorem dX9_net_1 : decode cX9_net 1 = .ok (.i2l, 1) := by decide +kernel
theorem dX9_net_2 : decode cX9_net 2 = .ok (.lconst 0, 1) := by decide +kernel
theorem dX9_net_3 : decode cX9_net 3 = .ok (.ldc2_w 132, 3) := by decide +kernel
theorem dX9_net_6 : decode cX9_net 6 = .ok (.invokestatic 112, 3) := by decide +kernel
theorem dX9_net_9 : decode cX9_net 9 = .ok (.ifCond .ne 5, 3) := by decide +kernel
theorem dX9_net_12 : decode cX9_net 12 = .ok (.iconst (-1), 1) := by decide +kernel
theorem dX9_net_13 : decode cX9_net 13 = .ok (.ireturn, 1) := by decide +kernel
theorem dX9_net_14 : decode cX9_net 14 = .ok (.aload_n 0, 1) := by decide +kernel
theorem dX9_net_15 : decode cX9_net 15 = .ok (.iload_n 1, 1) := by decide +kernel
theorem dX9_net_16 : decode cX9_net 16 = .ok (.invokevirtual 134, 3) := by decide +kernel
theorem dX9_net_19 : decode cX9_net 19 = .ok (.iconst 1, 1) := by decide +kernel
theorem dX9_net_20 : decode cX9_net 20 = .ok (.ireturn, 1) := by decide +kernel
theorem dX9_lay_0 : decode cX9_lay 0 = .ok (.aload_n 0, 1) := by decide +kernel
theorem dX9_lay_1 : decode cX9_lay 1 = .ok (.getfield 19, 3) := by decide +kernel
theorem dX9_lay_4 : decode cX9_lay 4 = .ok (.bipush 32, 2) := by decide +kernel
theorem dX9_lay_6 : decode cX9_lay 6 = .ok (.iload_n 1, 1) := by decide +kernel
theorem dX9_lay_7 : decode cX9_lay 7 = .ok (.imul, 1) := by decide +kernel
theorem dX9_lay_8 : decode cX9_lay 8 = .ok (.iload_n 2, 1) := by decide +kernel
theorem dX9_lay_9 : decode cX9_lay 9 = .ok (.iadd, 1) := by decide +kernel
theorem dX9_lay_10 : decode cX9_lay 10 = .ok (.baload, 1) := by decide +kernel
theorem dX9_lay_11 : decode cX9_lay 11 = .ok (.iload_n 3, 1) := by decide +kernel
theorem dX9_lay_12 : decode cX9_lay 12 = .ok (.if_icmp .eq 7, 3) := by decide +kernel
theorem dX9_lay_15 : decode cX9_lay 15 = .ok (.iconst 1, 1) := by decide +kernel
theorem dX9_lay_16 : decode cX9_lay 16 = .ok (.goto 4, 3) := by decide +kernel
theorem dX9_lay_19 : decode cX9_lay 19 = .ok (.iconst 0, 1) := by decide +kernel
theorem dX9_lay_20 : decode cX9_lay 20 = .ok (.istore 4, 2) := by decide +kernel
theorem dX9_lay_22 : decode cX9_lay 22 = .ok (.aload_n 0, 1) := by decide +kernel
theorem dX9_lay_23 : decode cX9_lay 23 = .ok (.getfield 19, 3) := by decide +kernel
theorem dX9_lay_26 : decode cX9_lay 26 = .ok (.bipush 32, 2) := by decide +kernel
theorem dX9_lay_28 : decode cX9_lay 28 = .ok (.iload_n 1, 1) := by decide +kernel
theorem dX9_lay_29 : decode cX9_lay 29 = .ok (.imul, 1) := by decide +kernel
theorem dX9_lay_30 : decode cX9_lay 30 = .ok (.iload_n 2, 1) := by decide +kernel
theorem dX9_lay_31 : decode cX9_lay 31 = .ok (.iadd, 1) := by decide +kernel
theorem dX9_lay_32 : decode cX9_lay 32 = .ok (.iload_n 3, 1) := by decide +kernel
theorem dX9_lay_33 : decode cX9_lay 33 = .ok (.bastore, 1) := by decide +kernel
theorem dX9_lay_34 : decode cX9_lay 34 = .ok (.aload_n 0, 1) := by decide +kernel
theorem dX9_lay_35 : decode cX9_lay 35 = .ok (.getfield 19, 3) := by decide +kernel
theorem dX9_lay_38 : decode cX9_lay 38 = .ok (.bipush 32, 2) := by decide +kernel
theorem dX9_lay_40 : decode cX9_lay 40 = .ok (.iload_n 2, 1) := by decide +kernel
theorem dX9_lay_41 : decode cX9_lay 41 = .ok (.imul, 1) := by decide +kernel
theorem dX9_lay_42 : decode cX9_lay 42 = .ok (.iload_n 1, 1) := by decide +kernel
theorem dX9_lay_43 : decode cX9_lay 43 = .ok (.iadd, 1) := by decide +kernel
theorem dX9_lay_44 : decode cX9_lay 44 = .ok (.iload_n 3, 1) := by decide +kernel
theorem dX9_lay_45 : decode cX9_lay 45 = .ok (.bastore, 1) := by decide +kernel
theorem dX9_lay_46 : decode cX9_lay 46 = .ok (.aload_n 0, 1) := by decide +kernel
theorem dX9_lay_47 : decode cX9_lay 47 = .ok (.iconst 0, 1) := by decide +kernel
theorem dX9_lay_48 : decode cX9_lay 48 = .ok (.putfield 125, 3) := by decide +kernel
theorem dX9_lay_51 : decode cX9_lay 51 = .ok (.aload_n 0, 1) := by decide +kernel
theorem dX9_lay_52 : decode cX9_lay 52 = .ok (.iconst 0, 1) := by decide +kernel
theorem dX9_lay_53 : decode cX9_lay 53 = .ok (.putfield 129, 3) := by decide +kernel
theorem dX9_lay_56 : decode cX9_lay 56 = .ok (.iload 4, 2) := by decide +kernel
theorem dX9_lay_58 : decode cX9_lay 58 = .ok (.ireturn, 1) := by decide +kernel
theorem dX9_road_0 : decode cX9_road 0 = .ok (.aload_n 0, 1) := by decide +kernel
theorem dX9_road_1 : decode cX9_road 1 = .ok (.iload_n 1, 1) := by decide +kernel
theorem dX9_road_2 : decode cX9_road 2 = .ok (.invokevirtual 138, 3) := by decide +kernel
theorem dX9_road_5 : decode cX9_road 5 = .ok (.ifCond .eq 16, 3) := by decide +kernel
theorem dX9_road_8 : decode cX9_road 8 = .ok (.aload_n 0, 1) := by decide +kernel
theorem dX9_road_9 : decode cX9_road 9 = .ok (.iload_n 2, 1) := by decide +kernel
theorem dX9_road_10 : decode cX9_road 10 = .ok (.invokevirtual 138, 3) := by decide +kernel
theorem dX9_road_13 : decode cX9_road 13 = .ok (.ifCond .eq 8, 3) := by decide +kernel
theorem dX9_road_16 : decode cX9_road 16 = .ok (.iload_n 1, 1) := by decide +kernel
theorem dX9_road_17 : decode cX9_road 17 = .ok (.iload_n 2, 1) := by decide +kernel
theorem dX9_road_18 : decode cX9_road 18 = .ok (.if_icmp .ne 5, 3) := by decide +kernel
theorem dX9_road_21 : decode cX9_road 21 = .ok (.iconst (-1), 1) := by decide +kernel
theorem dX9_road_22 : decode cX9_road 22 = .ok (.ireturn, 1) := by decide +kernel
theorem dX9_road_23 : decode cX9_road 23 = .ok (.aload_n 0, 1) := by decide +kernel
theorem dX9_road_24 : decode cX9_road 24 = .ok (.iload_n 1, 1) := by decide +kernel
theorem dX9_road_25 : decode cX9_road 25 = .ok (.iload_n 2, 1) := by decide +kernel
theorem dX9_road_26 : decode cX9_road 26 = .ok (.iload_n 3, 1) := by decide +kernel
theorem dX9_road_27 : decode cX9_road 27 = .ok (.invokevirtual 141, 3) := by decide +kernel
theorem dX9_road_30 : decode cX9_road 30 = .ok (.ifCond .eq 7, 3) := by decide +kernel
theorem dX9_road_33 : decode cX9_road 33 = .ok (.iconst 1, 1) := by decide +kernel
theorem dX9_road_34 : decode cX9_road 34 = .ok (.goto 4, 3) := by decide +kernel
theorem dX9_road_37 : decode cX9_road 37 = .ok (.iconst 0, 1) := by decide +kernel
theorem dX9_road_38 : decode cX9_road 38 = .ok (.ireturn, 1) := by decide +kernel
theorem dX9_load_0 : decode cX9_load 0 = .ok (.iload_n 1, 1) := by decide +kernel
theorem dX9_load_1 : decode cX9_load 1 = .ok (.invokestatic 119, 3) := by decide +kernel
theorem dX9_load_4 : decode cX9_load 4 = .ok (.ifCond .ne 5, 3) := by decide +kernel
theorem dX9_load_7 : decode cX9_load 7 = .ok (.iconst (-1), 1) := by decide +kernel
theorem dX9_load_8 : decode cX9_load 8 = .ok (.ireturn, 1) := by decide +kernel
theorem dX9_load_9 : decode cX9_load 9 = .ok (.aload_n 0, 1) := by decide +kernel
theorem dX9_load_10 : decode cX9_load 10 = .ok (.getfield 13, 3) := by decide +kernel
theorem dX9_load_13 : decode cX9_load 13 = .ok (.iload_n 1, 1) := by decide +kernel
theorem dX9_load_14 : decode cX9_load 14 = .ok (.iaload, 1) := by decide +kernel
theorem dX9_load_15 : decode cX9_load 15 = .ok (.ifCond .ge 6, 3) := by decide +kernel
theorem dX9_load_18 : decode cX9_load 18 = .ok (.bipush (-3), 2) := by decide +kernel
theorem dX9_load_20 : decode cX9_load 20 = .ok (.ireturn, 1) := by decide +kernel
theorem dX9_load_21 : decode cX9_load 21 = .ok (.iload_n 2, 1) := by decide +kernel
theorem dX9_load_22 : decode cX9_load 22 = .ok (.ifCond .lt 27, 3) := by decide +kernel
theorem dX9_load_25 : decode cX9_load 25 = .ok (.iload_n 3, 1) := by decide +kernel
theorem dX9_load_26 : decode cX9_load 26 = .ok (.ifCond .lt 23, 3) := by decide +kernel
theorem dX9_load_29 : decode cX9_load 29 = .ok (.iload_n 2, 1) := by decide +kernel
theorem dX9_load_30 : decode cX9_load 30 = .ok (.i2l, 1) := by decide +kernel
theorem dX9_load_31 : decode cX9_load 31 = .ok (.ldc2_w 123, 3) := by decide +kernel
theorem dX9_load_34 : decode cX9_load 34 = .ok (.iload_n 3, 1) := by decide +kernel
theorem dX9_load_35 : decode cX9_load 35 = .ok (.i2l, 1) := by decide +kernel
theorem dX9_load_36 : decode cX9_load 36 = .ok (.lmul, 1) := by decide +kernel
theorem dX9_load_37 : decode cX9_load 37 = .ok (.ladd, 1) := by decide +kernel
theorem dX9_load_38 : decode cX9_load 38 = .ok (.aload_n 0, 1) := by decide +kernel
theorem dX9_load_39 : decode cX9_load 39 = .ok (.getfield 13, 3) := by decide +kernel
theorem dX9_load_42 : decode cX9_load 42 = .ok (.iload_n 1, 1) := by decide +kernel
theorem dX9_load_43 : decode cX9_load 43 = .ok (.iaload, 1) := by decide +kernel
theorem dX9_load_44 : decode cX9_load 44 = .ok (.i2l, 1) := by decide +kernel
theorem dX9_load_45 : decode cX9_load 45 = .ok (.lcmp, 1) := by decide +kernel
theorem dX9_load_46 : decode cX9_load 46 = .ok (.ifCond .le 5, 3) := by decide +kernel
theorem dX9_load_49 : decode cX9_load 49 = .ok (.iconst (-1), 1) := by decide +kernel
theorem dX9_load_50 : decode cX9_load 50 = .ok (.ireturn, 1) := by decide +kernel
theorem dX9_load_51 : decode cX9_load 51 = .ok (.iconst 0, 1) := by decide +kernel
theorem dX9_load_52 : decode cX9_load 52 = .ok (.istore 4, 2) := by decide +kernel
theorem dX9_load_54 : decode cX9_load 54 = .ok (.iload 4, 2) := by decide +kernel
theorem dX9_load_56 : decode cX9_load 56 = .ok (.iload_n 3, 1) := by decide +kernel
theorem dX9_load_57 : decode cX9_load 57 = .ok (.if_icmp .ge 74, 3) := by decide +kernel
theorem dX9_load_60 : decode cX9_load 60 = .ok (.aload_n 0, 1) := by decide +kernel
theorem dX9_load_61 : decode cX9_load 61 = .ok (.getfield 16, 3) := by decide +kernel
theorem dX9_load_64 : decode cX9_load 64 = .ok (.bipush 60, 2) := by decide +kernel
theorem dX9_load_66 : decode cX9_load 66 = .ok (.iload_n 1, 1) := by decide +kernel
theorem dX9_load_67 : decode cX9_load 67 = .ok (.imul, 1) := by decide +kernel
theorem dX9_load_68 : decode cX9_load 68 = .ok (.iload_n 2, 1) := by decide +kernel
theorem dX9_load_69 : decode cX9_load 69 = .ok (.iadd, 1) := by decide +kernel
theorem dX9_load_70 : decode cX9_load 70 = .ok (.iconst 2, 1) := by decide +kernel
theorem dX9_load_71 : decode cX9_load 71 = .ok (.iload 4, 2) := by decide +kernel
theorem dX9_load_73 : decode cX9_load 73 = .ok (.imul, 1) := by decide +kernel
theorem dX9_load_74 : decode cX9_load 74 = .ok (.iadd, 1) := by decide +kernel
theorem dX9_load_75 : decode cX9_load 75 = .ok (.iaload, 1) := by decide +kernel
theorem dX9_load_76 : decode cX9_load 76 = .ok (.istore 5, 2) := by decide +kernel
theorem dX9_load_78 : decode cX9_load 78 = .ok (.aload_n 0, 1) := by decide +kernel
theorem dX9_load_79 : decode cX9_load 79 = .ok (.getfield 16, 3) := by decide +kernel
theorem dX9_load_82 : decode cX9_load 82 = .ok (.bipush 60, 2) := by decide +kernel
theorem dX9_load_84 : decode cX9_load 84 = .ok (.iload_n 1, 1) := by decide +kernel
theorem dX9_load_85 : decode cX9_load 85 = .ok (.imul, 1) := by decide +kernel
theorem dX9_load_86 : decode cX9_load 86 = .ok (.iload_n 2, 1) := by decide +kernel
theorem dX9_load_87 : decode cX9_load 87 = .ok (.iadd, 1) := by decide +kernel
theorem dX9_load_88 : decode cX9_load 88 = .ok (.iconst 2, 1) := by decide +kernel
theorem dX9_load_89 : decode cX9_load 89 = .ok (.iload 4, 2) := by decide +kernel
theorem dX9_load_91 : decode cX9_load 91 = .ok (.imul, 1) := by decide +kernel
theorem dX9_load_92 : decode cX9_load 92 = .ok (.iadd, 1) := by decide +kernel
theorem dX9_load_93 : decode cX9_load 93 = .ok (.iconst 1, 1) := by decide +kernel
theorem dX9_load_94 : decode cX9_load 94 = .ok (.iadd, 1) := by decide +kernel
theorem dX9_load_95 : decode cX9_load 95 = .ok (.iaload, 1) := by decide +kernel
theorem dX9_load_96 : decode cX9_load 96 = .ok (.istore 6, 2) := by decide +kernel
theorem dX9_load_98 : decode cX9_load 98 = .ok (.aload_n 0, 1) := by decide +kernel
theorem dX9_load_99 : decode cX9_load 99 = .ok (.iload 5, 2) := by decide +kernel
theorem dX9_load_101 : decode cX9_load 101 = .ok (.invokevirtual 138, 3) := by decide +kernel
theorem dX9_load_104 : decode cX9_load 104 = .ok (.ifCond .eq 19, 3) := by decide +kernel
theorem dX9_load_107 : decode cX9_load 107 = .ok (.aload_n 0, 1) := by decide +kernel
theorem dX9_load_108 : decode cX9_load 108 = .ok (.iload 6, 2) := by decide +kernel
theorem dX9_load_110 : decode cX9_load 110 = .ok (.invokevirtual 138, 3) := by decide +kernel
theorem dX9_load_113 : decode cX9_load 113 = .ok (.ifCond .eq 10, 3) := by decide +kernel
theorem dX9_load_116 : decode cX9_load 116 = .ok (.iload 5, 2) := by decide +kernel
theorem dX9_load_118 : decode cX9_load 118 = .ok (.iload 6, 2) := by decide +kernel
theorem dX9_load_120 : decode cX9_load 120 = .ok (.if_icmp .ne 5, 3) := by decide +kernel
theorem dX9_load_123 : decode cX9_load 123 = .ok (.iconst (-1), 1) := by decide +kernel
theorem dX9_load_124 : decode cX9_load 124 = .ok (.ireturn, 1) := by decide +kernel
theorem dX9_load_125 : decode cX9_load 125 = .ok (.iinc 4 1, 3) := by decide +kernel
theorem dX9_load_128 : decode cX9_load 128 = .ok (.goto (-74), 3) := by decide +kernel
theorem dX9_load_131 : decode cX9_load 131 = .ok (.iconst 0, 1) := by decide +kernel
theorem dX9_load_132 : decode cX9_load 132 = .ok (.istore 4, 2) := by decide +kernel
theorem dX9_load_134 : decode cX9_load 134 = .ok (.iconst 0, 1) := by decide +kernel
theorem dX9_load_135 : decode cX9_load 135 = .ok (.istore 5, 2) := by decide +kernel
theorem dX9_load_137 : decode cX9_load 137 = .ok (.iload 5, 2) := by decide +kernel
theorem dX9_load_139 : decode cX9_load 139 = .ok (.iload_n 3, 1) := by decide +kernel
theorem dX9_load_140 : decode cX9_load 140 = .ok (.if_icmp .ge 61, 3) := by decide +kernel
theorem dX9_load_143 : decode cX9_load 143 = .ok (.iload 4, 2) := by decide +kernel
theorem dX9_load_145 : decode cX9_load 145 = .ok (.aload_n 0, 1) := by decide +kernel
theorem dX9_load_146 : decode cX9_load 146 = .ok (.aload_n 0, 1) := by decide +kernel
theorem dX9_load_147 : decode cX9_load 147 = .ok (.getfield 16, 3) := by decide +kernel
theorem dX9_load_150 : decode cX9_load 150 = .ok (.bipush 60, 2) := by decide +kernel
theorem dX9_load_152 : decode cX9_load 152 = .ok (.iload_n 1, 1) := by decide +kernel
theorem dX9_load_153 : decode cX9_load 153 = .ok (.imul, 1) := by decide +kernel
theorem dX9_load_154 : decode cX9_load 154 = .ok (.iload_n 2, 1) := by decide +kernel
theorem dX9_load_155 : decode cX9_load 155 = .ok (.iadd, 1) := by decide +kernel
theorem dX9_load_156 : decode cX9_load 156 = .ok (.iconst 2, 1) := by decide +kernel
theorem dX9_load_157 : decode cX9_load 157 = .ok (.iload 5, 2) := by decide +kernel
theorem dX9_load_159 : decode cX9_load 159 = .ok (.imul, 1) := by decide +kernel
theorem dX9_load_160 : decode cX9_load 160 = .ok (.iadd, 1) := by decide +kernel
theorem dX9_load_161 : decode cX9_load 161 = .ok (.iaload, 1) := by decide +kernel
theorem dX9_load_162 : decode cX9_load 162 = .ok (.aload_n 0, 1) := by decide +kernel
theorem dX9_load_163 : decode cX9_load 163 = .ok (.getfield 16, 3) := by decide +kernel
theorem dX9_load_166 : decode cX9_load 166 = .ok (.bipush 60, 2) := by decide +kernel
theorem dX9_load_168 : decode cX9_load 168 = .ok (.iload_n 1, 1) := by decide +kernel
theorem dX9_load_169 : decode cX9_load 169 = .ok (.imul, 1) := by decide +kernel
theorem dX9_load_170 : decode cX9_load 170 = .ok (.iload_n 2, 1) := by decide +kernel
theorem dX9_load_171 : decode cX9_load 171 = .ok (.iadd, 1) := by decide +kernel
theorem dX9_load_172 : decode cX9_load 172 = .ok (.iconst 2, 1) := by decide +kernel
theorem dX9_load_173 : decode cX9_load 173 = .ok (.iload 5, 2) := by decide +kernel
theorem dX9_load_175 : decode cX9_load 175 = .ok (.imul, 1) := by decide +kernel
theorem dX9_load_176 : decode cX9_load 176 = .ok (.iadd, 1) := by decide +kernel
theorem dX9_load_177 : decode cX9_load 177 = .ok (.iconst 1, 1) := by decide +kernel
theorem dX9_load_178 : decode cX9_load 178 = .ok (.iadd, 1) := by decide +kernel
theorem dX9_load_179 : decode cX9_load 179 = .ok (.iaload, 1) := by decide +kernel
theorem dX9_load_180 : decode cX9_load 180 = .ok (.iconst 1, 1) := by decide +kernel
theorem dX9_load_181 : decode cX9_load 181 = .ok (.invokevirtual 141, 3) := by decide +kernel
theorem dX9_load_184 : decode cX9_load 184 = .ok (.ifCond .eq 7, 3) := by decide +kernel
theorem dX9_load_187 : decode cX9_load 187 = .ok (.iconst 1, 1) := by decide +kernel
theorem dX9_load_188 : decode cX9_load 188 = .ok (.goto 4, 3) := by decide +kernel
theorem dX9_load_191 : decode cX9_load 191 = .ok (.iconst 0, 1) := by decide +kernel
theorem dX9_load_192 : decode cX9_load 192 = .ok (.iadd, 1) := by decide +kernel
theorem dX9_load_193 : decode cX9_load 193 = .ok (.istore 4, 2) := by decide +kernel
theorem dX9_load_195 : decode cX9_load 195 = .ok (.iinc 5 1, 3) := by decide +kernel
theorem dX9_load_198 : decode cX9_load 198 = .ok (.goto (-61), 3) := by decide +kernel
theorem dX9_load_201 : decode cX9_load 201 = .ok (.iload 4, 2) := by decide +kernel
theorem dX9_load_203 : decode cX9_load 203 = .ok (.ireturn, 1) := by decide +kernel
theorem dX9_joined_0 : decode cX9_joined 0 = .ok (.aload_n 0, 1) := by decide +kernel
theorem dX9_joined_1 : decode cX9_joined 1 = .ok (.iload_n 1, 1) := by decide +kernel
theorem dX9_joined_2 : decode cX9_joined 2 = .ok (.invokevirtual 138, 3) := by decide +kernel
theorem dX9_joined_5 : decode cX9_joined 5 = .ok (.ifCond .eq 29, 3) := by decide +kernel
theorem dX9_joined_8 : decode cX9_joined 8 = .ok (.aload_n 0, 1) := by decide +kernel
theorem dX9_joined_9 : decode cX9_joined 9 = .ok (.iload_n 2, 1) := by decide +kernel
theorem dX9_joined_10 : decode cX9_joined 10 = .ok (.invokevirtual 138, 3) := by decide +kernel
theorem dX9_joined_13 : decode cX9_joined 13 = .ok (.ifCond .eq 21, 3) := by decide +kernel
theorem dX9_joined_16 : decode cX9_joined 16 = .ok (.aload_n 0, 1) := by decide +kernel
theorem dX9_joined_17 : decode cX9_joined 17 = .ok (.getfield 19, 3) := by decide +kernel
theorem dX9_joined_20 : decode cX9_joined 20 = .ok (.bipush 32, 2) := by decide +kernel
theorem dX9_joined_22 : decode cX9_joined 22 = .ok (.iload_n 1, 1) := by decide +kernel
theorem dX9_joined_23 : decode cX9_joined 23 = .ok (.imul, 1) := by decide +kernel
theorem dX9_joined_24 : decode cX9_joined 24 = .ok (.iload_n 2, 1) := by decide +kernel
theorem dX9_joined_25 : decode cX9_joined 25 = .ok (.iadd, 1) := by decide +kernel
theorem dX9_joined_26 : decode cX9_joined 26 = .ok (.baload, 1) := by decide +kernel
theorem dX9_joined_27 : decode cX9_joined 27 = .ok (.ifCond .eq 7, 3) := by decide +kernel
theorem dX9_joined_30 : decode cX9_joined 30 = .ok (.iconst 1, 1) := by decide +kernel
theorem dX9_joined_31 : decode cX9_joined 31 = .ok (.goto 4, 3) := by decide +kernel
theorem dX9_joined_34 : decode cX9_joined 34 = .ok (.iconst 0, 1) := by decide +kernel
theorem dX9_joined_35 : decode cX9_joined 35 = .ok (.ireturn, 1) := by decide +kernel
theorem dX9_ones_0 : decode cX9_ones 0 = .ok (.iconst 0, 1) := by decide +kernel
theorem dX9_ones_1 : decode cX9_ones 1 = .ok (.istore_n 1, 1) := by decide +kernel
theorem dX9_ones_2 : decode cX9_ones 2 = .ok (.iconst 0, 1) := by decide +kernel
theorem dX9_ones_3 : decode cX9_ones 3 = .ok (.istore_n 2, 1) := by decide +kernel
theorem dX9_ones_4 : decode cX9_ones 4 = .ok (.iload_n 2, 1) := by decide +kernel
theorem dX9_ones_5 : decode cX9_ones 5 = .ok (.bipush 32, 2) := by decide +kernel
theorem dX9_ones_7 : decode cX9_ones 7 = .ok (.if_icmp .ge 17, 3) := by decide +kernel
theorem dX9_ones_10 : decode cX9_ones 10 = .ok (.iload_n 1, 1) := by decide +kernel
theorem dX9_ones_11 : decode cX9_ones 11 = .ok (.iload_n 0, 1) := by decide +kernel
theorem dX9_ones_12 : decode cX9_ones 12 = .ok (.iload_n 2, 1) := by decide +kernel
theorem dX9_ones_13 : decode cX9_ones 13 = .ok (.ishr, 1) := by decide +kernel
theorem dX9_ones_14 : decode cX9_ones 14 = .ok (.iconst 1, 1) := by decide +kernel
theorem dX9_ones_15 : decode cX9_ones 15 = .ok (.iand, 1) := by decide +kernel
theorem dX9_ones_16 : decode cX9_ones 16 = .ok (.iadd, 1) := by decide +kernel
theorem dX9_ones_17 : decode cX9_ones 17 = .ok (.istore_n 1, 1) := by decide +kernel
theorem dX9_ones_18 : decode cX9_ones 18 = .ok (.iinc 2 1, 3) := by decide +kernel
theorem dX9_ones_21 : decode cX9_ones 21 = .ok (.goto (-17), 3) := by decide +kernel
theorem dX9_ones_24 : decode cX9_ones 24 = .ok (.iload_n 1, 1) := by decide +kernel
theorem dX9_ones_25 : decode cX9_ones 25 = .ok (.ireturn, 1) := by decide +kernel
theorem dX9_findSets_0 : decode cX9_findSets 0 = .ok (.iconst 0, 1) := by decide +kernel
theorem dX9_findSets_1 : decode cX9_findSets 1 = .ok (.istore_n 3, 1) := by decide +kernel
theorem dX9_findSets_2 : decode cX9_findSets 2 = .ok (.lconst 1, 1) := by decide +kernel
theorem dX9_findSets_3 : decode cX9_findSets 3 = .ok (.iload_n 2, 1) := by decide +kernel
theorem dX9_findSets_4 : decode cX9_findSets 4 = .ok (.lshl, 1) := by decide +kernel
theorem dX9_findSets_5 : decode cX9_findSets 5 = .ok (.lconst 1, 1) := by decide +kernel
theorem dX9_findSets_6 : decode cX9_findSets 6 = .ok (.lsub, 1) := by decide +kernel
theorem dX9_findSets_7 : decode cX9_findSets 7 = .ok (.lstore 4, 2) := by decide +kernel
theorem dX9_findSets_9 : decode cX9_findSets 9 = .ok (.lload 4, 2) := by decide +kernel
theorem dX9_findSets_11 : decode cX9_findSets 11 = .ok (.lconst 1, 1) := by decide +kernel
theorem dX9_findSets_12 : decode cX9_findSets 12 = .ok (.iload_n 1, 1) := by decide +kernel
theorem dX9_findSets_13 : decode cX9_findSets 13 = .ok (.lshl, 1) := by decide +kernel
theorem dX9_findSets_14 : decode cX9_findSets 14 = .ok (.lcmp, 1) := by decide +kernel
theorem dX9_findSets_15 : decode cX9_findSets 15 = .ok (.ifCond .ge 54, 3) := by decide +kernel
theorem dX9_findSets_18 : decode cX9_findSets 18 = .ok (.iload_n 3, 1) := by decide +kernel
theorem dX9_findSets_19 : decode cX9_findSets 19 = .ok (.bipush 32, 2) := by decide +kernel
theorem dX9_findSets_21 : decode cX9_findSets 21 = .ok (.if_icmp .gt 48, 3) := by decide +kernel
theorem dX9_findSets_24 : decode cX9_findSets 24 = .ok (.aload_n 0, 1) := by decide +kernel
theorem dX9_findSets_25 : decode cX9_findSets 25 = .ok (.getfield 36, 3) := by decide +kernel
theorem dX9_findSets_28 : decode cX9_findSets 28 = .ok (.iload_n 3, 1) := by decide +kernel
theorem dX9_findSets_29 : decode cX9_findSets 29 = .ok (.lload 4, 2) := by decide +kernel
theorem dX9_findSets_31 : decode cX9_findSets 31 = .ok (.l2i, 1) := by decide +kernel
theorem dX9_findSets_32 : decode cX9_findSets 32 = .ok (.iastore, 1) := by decide +kernel
theorem dX9_findSets_33 : decode cX9_findSets 33 = .ok (.iinc 3 1, 3) := by decide +kernel
theorem dX9_findSets_36 : decode cX9_findSets 36 = .ok (.lload 4, 2) := by decide +kernel
theorem dX9_findSets_38 : decode cX9_findSets 38 = .ok (.lload 4, 2) := by decide +kernel
theorem dX9_findSets_40 : decode cX9_findSets 40 = .ok (.lneg, 1) := by decide +kernel
theorem dX9_findSets_41 : decode cX9_findSets 41 = .ok (.land, 1) := by decide +kernel
theorem dX9_findSets_42 : decode cX9_findSets 42 = .ok (.lstore 6, 2) := by decide +kernel
theorem dX9_findSets_44 : decode cX9_findSets 44 = .ok (.lload 4, 2) := by decide +kernel
theorem dX9_findSets_46 : decode cX9_findSets 46 = .ok (.lload 6, 2) := by decide +kernel
theorem dX9_findSets_48 : decode cX9_findSets 48 = .ok (.ladd, 1) := by decide +kernel
theorem dX9_findSets_49 : decode cX9_findSets 49 = .ok (.lstore 8, 2) := by decide +kernel
theorem dX9_findSets_51 : decode cX9_findSets 51 = .ok (.lload 4, 2) := by decide +kernel
theorem dX9_findSets_53 : decode cX9_findSets 53 = .ok (.lload 8, 2) := by decide +kernel
theorem dX9_findSets_55 : decode cX9_findSets 55 = .ok (.lxor, 1) := by decide +kernel
theorem dX9_findSets_56 : decode cX9_findSets 56 = .ok (.lload 6, 2) := by decide +kernel
theorem dX9_findSets_58 : decode cX9_findSets 58 = .ok (.ldiv, 1) := by decide +kernel
theorem dX9_findSets_59 : decode cX9_findSets 59 = .ok (.iconst 2, 1) := by decide +kernel
theorem dX9_findSets_60 : decode cX9_findSets 60 = .ok (.lshr, 1) := by decide +kernel
theorem dX9_findSets_61 : decode cX9_findSets 61 = .ok (.lload 8, 2) := by decide +kernel
theorem dX9_findSets_63 : decode cX9_findSets 63 = .ok (.lor, 1) := by decide +kernel
theorem dX9_findSets_64 : decode cX9_findSets 64 = .ok (.lstore 4, 2) := by decide +kernel
theorem dX9_findSets_66 : decode cX9_findSets 66 = .ok (.goto (-57), 3) := by decide +kernel
theorem dX9_findSets_69 : decode cX9_findSets 69 = .ok (.iload_n 3, 1) := by decide +kernel
theorem dX9_findSets_70 : decode cX9_findSets 70 = .ok (.ireturn, 1) := by decide +kernel
theorem dX9_choose_0 : decode cX9_choose 0 = .ok (.lconst 1, 1) := by decide +kernel
theorem dX9_choose_1 : decode cX9_choose 1 = .ok (.lstore_n 2, 1) := by decide +kernel
theorem dX9_choose_2 : decode cX9_choose 2 = .ok (.iload_n 1, 1) := by decide +kernel
theorem dX9_choose_3 : decode cX9_choose 3 = .ok (.iload_n 0, 1) := by decide +kernel
theorem dX9_choose_4 : decode cX9_choose 4 = .ok (.iload_n 1, 1) := by decide +kernel
theorem dX9_choose_5 : decode cX9_choose 5 = .ok (.isub, 1) := by decide +kernel
theorem dX9_choose_6 : decode cX9_choose 6 = .ok (.if_icmp .ge 7, 3) := by decide +kernel
theorem dX9_choose_9 : decode cX9_choose 9 = .ok (.iload_n 1, 1) := by decide +kernel
theorem dX9_choose_10 : decode cX9_choose 10 = .ok (.goto 6, 3) := by decide +kernel
theorem dX9_choose_13 : decode cX9_choose 13 = .ok (.iload_n 0, 1) := by decide +kernel
theorem dX9_choose_14 : decode cX9_choose 14 = .ok (.iload_n 1, 1) := by decide +kernel
theorem dX9_choose_15 : decode cX9_choose 15 = .ok (.isub, 1) := by decide +kernel
theorem dX9_choose_16 : decode cX9_choose 16 = .ok (.istore 4, 2) := by decide +kernel
theorem dX9_choose_18 : decode cX9_choose 18 = .ok (.iconst 1, 1) := by decide +kernel
theorem dX9_choose_19 : decode cX9_choose 19 = .ok (.istore 5, 2) := by decide +kernel
theorem dX9_choose_21 : decode cX9_choose 21 = .ok (.iload 5, 2) := by decide +kernel
theorem dX9_choose_23 : decode cX9_choose 23 = .ok (.iload 4, 2) := by decide +kernel
theorem dX9_choose_25 : decode cX9_choose 25 = .ok (.if_icmp .gt 32, 3) := by decide +kernel
theorem dX9_choose_28 : decode cX9_choose 28 = .ok (.lload_n 2, 1) := by decide +kernel
theorem dX9_choose_29 : decode cX9_choose 29 = .ok (.ldc2_w 145, 3) := by decide +kernel
theorem dX9_choose_32 : decode cX9_choose 32 = .ok (.lcmp, 1) := by decide +kernel
theorem dX9_choose_33 : decode cX9_choose 33 = .ok (.ifCond .gt 24, 3) := by decide +kernel
theorem dX9_choose_36 : decode cX9_choose 36 = .ok (.lload_n 2, 1) := by decide +kernel
theorem dX9_choose_37 : decode cX9_choose 37 = .ok (.iload_n 0, 1) := by decide +kernel
theorem dX9_choose_38 : decode cX9_choose 38 = .ok (.iload 4, 2) := by decide +kernel
theorem dX9_choose_40 : decode cX9_choose 40 = .ok (.isub, 1) := by decide +kernel
theorem dX9_choose_41 : decode cX9_choose 41 = .ok (.iload 5, 2) := by decide +kernel
theorem dX9_choose_43 : decode cX9_choose 43 = .ok (.iadd, 1) := by decide +kernel
theorem dX9_choose_44 : decode cX9_choose 44 = .ok (.i2l, 1) := by decide +kernel
theorem dX9_choose_45 : decode cX9_choose 45 = .ok (.lmul, 1) := by decide +kernel
theorem dX9_choose_46 : decode cX9_choose 46 = .ok (.iload 5, 2) := by decide +kernel
theorem dX9_choose_48 : decode cX9_choose 48 = .ok (.i2l, 1) := by decide +kernel
theorem dX9_choose_49 : decode cX9_choose 49 = .ok (.ldiv, 1) := by decide +kernel
theorem dX9_choose_50 : decode cX9_choose 50 = .ok (.lstore_n 2, 1) := by decide +kernel
theorem dX9_choose_51 : decode cX9_choose 51 = .ok (.iinc 5 1, 3) := by decide +kernel
theorem dX9_choose_54 : decode cX9_choose 54 = .ok (.goto (-33), 3) := by decide +kernel
theorem dX9_choose_57 : decode cX9_choose 57 = .ok (.lload_n 2, 1) := by decide +kernel
theorem dX9_choose_58 : decode cX9_choose 58 = .ok (.ldc2_w 132, 3) := by decide +kernel
theorem dX9_choose_61 : decode cX9_choose 61 = .ok (.lcmp, 1) := by decide +kernel
theorem dX9_choose_62 : decode cX9_choose 62 = .ok (.ifCond .le 8, 3) := by decide +kernel
theorem dX9_choose_65 : decode cX9_choose 65 = .ok (.bipush 33, 2) := by decide +kernel
theorem dX9_choose_67 : decode cX9_choose 67 = .ok (.goto 5, 3) := by decide +kernel
theorem dX9_choose_70 : decode cX9_choose 70 = .ok (.lload_n 2, 1) := by decide +kernel
theorem dX9_choose_71 : decode cX9_choose 71 = .ok (.l2i, 1) := by decide +kernel
theorem dX9_choose_72 : decode cX9_choose 72 = .ok (.ireturn, 1) := by decide +kernel
theorem dX9_power_0 : decode cX9_power 0 = .ok (.lconst 1, 1) := by decide +kernel
theorem dX9_power_1 : decode cX9_power 1 = .ok (.lstore_n 2, 1) := by decide +kernel
theorem dX9_power_2 : decode cX9_power 2 = .ok (.iconst 0, 1) := by decide +kernel
theorem dX9_power_3 : decode cX9_power 3 = .ok (.istore 4, 2) := by decide +kernel
theorem dX9_power_5 : decode cX9_power 5 = .ok (.iload 4, 2) := by decide +kernel
theorem dX9_power_7 : decode cX9_power 7 = .ok (.iload_n 1, 1) := by decide +kernel
theorem dX9_power_8 : decode cX9_power 8 = .ok (.if_icmp .ge 22, 3) := by decide +kernel
theorem dX9_power_11 : decode cX9_power 11 = .ok (.lload_n 2, 1) := by decide +kernel
theorem dX9_power_12 : decode cX9_power 12 = .ok (.ldc2_w 132, 3) := by decide +kernel
theorem dX9_power_15 : decode cX9_power 15 = .ok (.lcmp, 1) := by decide +kernel
theorem dX9_power_16 : decode cX9_power 16 = .ok (.ifCond .gt 14, 3) := by decide +kernel
theorem dX9_power_19 : decode cX9_power 19 = .ok (.lload_n 2, 1) := by decide +kernel
theorem dX9_power_20 : decode cX9_power 20 = .ok (.iload_n 0, 1) := by decide +kernel
theorem dX9_power_21 : decode cX9_power 21 = .ok (.i2l, 1) := by decide +kernel
theorem dX9_power_22 : decode cX9_power 22 = .ok (.lmul, 1) := by decide +kernel
theorem dX9_power_23 : decode cX9_power 23 = .ok (.lstore_n 2, 1) := by decide +kernel
theorem dX9_power_24 : decode cX9_power 24 = .ok (.iinc 4 1, 3) := by decide +kernel
theorem dX9_power_27 : decode cX9_power 27 = .ok (.goto (-22), 3) := by decide +kernel
theorem dX9_power_30 : decode cX9_power 30 = .ok (.lload_n 2, 1) := by decide +kernel
theorem dX9_power_31 : decode cX9_power 31 = .ok (.ldc2_w 132, 3) := by decide +kernel
theorem dX9_power_34 : decode cX9_power 34 = .ok (.lcmp, 1) := by decide +kernel
theorem dX9_power_35 : decode cX9_power 35 = .ok (.ifCond .le 8, 3) := by decide +kernel
theorem dX9_power_38 : decode cX9_power 38 = .ok (.bipush 33, 2) := by decide +kernel
theorem dX9_power_40 : decode cX9_power 40 = .ok (.goto 5, 3) := by decide +kernel
theorem dX9_power_43 : decode cX9_power 43 = .ok (.lload_n 2, 1) := by decide +kernel
theorem dX9_power_44 : decode cX9_power 44 = .ok (.l2i, 1) := by decide +kernel
theorem dX9_power_45 : decode cX9_power 45 = .ok (.ireturn, 1) := by decide +kernel
theorem dX9_unlikeLetters_0 : decode cX9_unlikeLetters 0 = .ok (.iconst 0, 1) := by decide +kernel
theorem dX9_unlikeLetters_1 : decode cX9_unlikeLetters 1 = .ok (.istore 4, 2) := by decide +kernel
theorem dX9_unlikeLetters_3 : decode cX9_unlikeLetters 3 = .ok (.iload_n 0, 1) := by decide +kernel
theorem dX9_unlikeLetters_4 : decode cX9_unlikeLetters 4 = .ok (.istore 5, 2) := by decide +kernel
theorem dX9_unlikeLetters_6 : decode cX9_unlikeLetters 6 = .ok (.iload_n 1, 1) := by decide +kernel
theorem dX9_unlikeLetters_7 : decode cX9_unlikeLetters 7 = .ok (.istore 6, 2) := by decide +kernel
theorem dX9_unlikeLetters_9 : decode cX9_unlikeLetters 9 = .ok (.iconst 0, 1) := by decide +kernel
theorem dX9_unlikeLetters_10 : decode cX9_unlikeLetters 10 = .ok (.istore 7, 2) := by decide +kernel
theorem dX9_unlikeLetters_12 : decode cX9_unlikeLetters 12 = .ok (.iload 7, 2) := by decide +kernel
theorem dX9_unlikeLetters_14 : decode cX9_unlikeLetters 14 = .ok (.iload_n 3, 1) := by decide +kernel
theorem dX9_unlikeLetters_15 : decode cX9_unlikeLetters 15 = .ok (.if_icmp .ge 42, 3) := by decide +kernel
theorem dX9_unlikeLetters_18 : decode cX9_unlikeLetters 18 = .ok (.iload 4, 2) := by decide +kernel
theorem dX9_unlikeLetters_20 : decode cX9_unlikeLetters 20 = .ok (.iload 5, 2) := by decide +kernel
theorem dX9_unlikeLetters_22 : decode cX9_unlikeLetters 22 = .ok (.iload_n 2, 1) := by decide +kernel
theorem dX9_unlikeLetters_23 : decode cX9_unlikeLetters 23 = .ok (.irem, 1) := by decide +kernel
theorem dX9_unlikeLetters_24 : decode cX9_unlikeLetters 24 = .ok (.iload 6, 2) := by decide +kernel
theorem dX9_unlikeLetters_26 : decode cX9_unlikeLetters 26 = .ok (.iload_n 2, 1) := by decide +kernel
theorem dX9_unlikeLetters_27 : decode cX9_unlikeLetters 27 = .ok (.irem, 1) := by decide +kernel
theorem dX9_unlikeLetters_28 : decode cX9_unlikeLetters 28 = .ok (.if_icmp .eq 7, 3) := by decide +kernel
theorem dX9_unlikeLetters_31 : decode cX9_unlikeLetters 31 = .ok (.iconst 1, 1) := by decide +kernel
theorem dX9_unlikeLetters_32 : decode cX9_unlikeLetters 32 = .ok (.goto 4, 3) := by decide +kernel
theorem dX9_unlikeLetters_35 : decode cX9_unlikeLetters 35 = .ok (.iconst 0, 1) := by decide +kernel
theorem dX9_unlikeLetters_36 : decode cX9_unlikeLetters 36 = .ok (.iadd, 1) := by decide +kernel
theorem dX9_unlikeLetters_37 : decode cX9_unlikeLetters 37 = .ok (.istore 4, 2) := by decide +kernel
theorem dX9_unlikeLetters_39 : decode cX9_unlikeLetters 39 = .ok (.iload 5, 2) := by decide +kernel
theorem dX9_unlikeLetters_41 : decode cX9_unlikeLetters 41 = .ok (.iload_n 2, 1) := by decide +kernel
theorem dX9_unlikeLetters_42 : decode cX9_unlikeLetters 42 = .ok (.idiv, 1) := by decide +kernel
theorem dX9_unlikeLetters_43 : decode cX9_unlikeLetters 43 = .ok (.istore 5, 2) := by decide +kernel
theorem dX9_unlikeLetters_45 : decode cX9_unlikeLetters 45 = .ok (.iload 6, 2) := by decide +kernel
theorem dX9_unlikeLetters_47 : decode cX9_unlikeLetters 47 = .ok (.iload_n 2, 1) := by decide +kernel
theorem dX9_unlikeLetters_48 : decode cX9_unlikeLetters 48 = .ok (.idiv, 1) := by decide +kernel
theorem dX9_unlikeLetters_49 : decode cX9_unlikeLetters 49 = .ok (.istore 6, 2) := by decide +kernel
theorem dX9_unlikeLetters_51 : decode cX9_unlikeLetters 51 = .ok (.iinc 7 1, 3) := by decide +kernel
theorem dX9_unlikeLetters_54 : decode cX9_unlikeLetters 54 = .ok (.goto (-42), 3) := by decide +kernel
theorem dX9_unlikeLetters_57 : decode cX9_unlikeLetters 57 = .ok (.iload 4, 2) := by decide +kernel
theorem dX9_unlikeLetters_59 : decode cX9_unlikeLetters 59 = .ok (.ireturn, 1) := by decide +kernel
theorem dX9_may_0 : decode cX9_may 0 = .ok (.iload_n 0, 1) := by decide +kernel
theorem dX9_may_1 : decode cX9_may 1 = .ok (.tableswitch 109 0 5 #[39, 50, 61, 77, 77, 93], 39) := by decide +kernel
theorem dX9_may_40 : decode cX9_may 40 = .ok (.iload_n 1, 1) := by decide +kernel
theorem dX9_may_41 : decode cX9_may 41 = .ok (.iconst 3, 1) := by decide +kernel
theorem dX9_may_42 : decode cX9_may 42 = .ok (.if_icmp .lt 7, 3) := by decide +kernel
theorem dX9_may_45 : decode cX9_may 45 = .ok (.iconst 1, 1) := by decide +kernel
theorem dX9_may_46 : decode cX9_may 46 = .ok (.goto 4, 3) := by decide +kernel
theorem dX9_may_49 : decode cX9_may 49 = .ok (.iconst 0, 1) := by decide +kernel
theorem dX9_may_50 : decode cX9_may 50 = .ok (.ireturn, 1) := by decide +kernel
theorem dX9_may_51 : decode cX9_may 51 = .ok (.iload_n 1, 1) := by decide +kernel
theorem dX9_may_52 : decode cX9_may 52 = .ok (.iconst 1, 1) := by decide +kernel
theorem dX9_may_53 : decode cX9_may 53 = .ok (.if_icmp .lt 7, 3) := by decide +kernel
theorem dX9_may_56 : decode cX9_may 56 = .ok (.iconst 1, 1) := by decide +kernel
theorem dX9_may_57 : decode cX9_may 57 = .ok (.goto 4, 3) := by decide +kernel
theorem dX9_may_60 : decode cX9_may 60 = .ok (.iconst 0, 1) := by decide +kernel
theorem dX9_may_61 : decode cX9_may 61 = .ok (.ireturn, 1) := by decide +kernel
theorem dX9_may_62 : decode cX9_may 62 = .ok (.iload_n 1, 1) := by decide +kernel
theorem dX9_may_63 : decode cX9_may 63 = .ok (.iconst 2, 1) := by decide +kernel
theorem dX9_may_64 : decode cX9_may 64 = .ok (.if_icmp .lt 12, 3) := by decide +kernel
theorem dX9_may_67 : decode cX9_may 67 = .ok (.iload_n 2, 1) := by decide +kernel
theorem dX9_may_68 : decode cX9_may 68 = .ok (.iconst 1, 1) := by decide +kernel
theorem dX9_may_69 : decode cX9_may 69 = .ok (.if_icmp .lt 7, 3) := by decide +kernel
theorem dX9_may_72 : decode cX9_may 72 = .ok (.iconst 1, 1) := by decide +kernel
theorem dX9_may_73 : decode cX9_may 73 = .ok (.goto 4, 3) := by decide +kernel
theorem dX9_may_76 : decode cX9_may 76 = .ok (.iconst 0, 1) := by decide +kernel
theorem dX9_may_77 : decode cX9_may 77 = .ok (.ireturn, 1) := by decide +kernel
theorem dX9_may_78 : decode cX9_may 78 = .ok (.iload_n 2, 1) := by decide +kernel
theorem dX9_may_79 : decode cX9_may 79 = .ok (.iconst 1, 1) := by decide +kernel
theorem dX9_may_80 : decode cX9_may 80 = .ok (.if_icmp .lt 12, 3) := by decide +kernel
theorem dX9_may_83 : decode cX9_may 83 = .ok (.iload_n 2, 1) := by decide +kernel
theorem dX9_may_84 : decode cX9_may 84 = .ok (.iload_n 1, 1) := by decide +kernel
theorem dX9_may_85 : decode cX9_may 85 = .ok (.if_icmp .ge 7, 3) := by decide +kernel
theorem dX9_may_88 : decode cX9_may 88 = .ok (.iconst 1, 1) := by decide +kernel
theorem dX9_may_89 : decode cX9_may 89 = .ok (.goto 4, 3) := by decide +kernel
theorem dX9_may_92 : decode cX9_may 92 = .ok (.iconst 0, 1) := by decide +kernel
theorem dX9_may_93 : decode cX9_may 93 = .ok (.ireturn, 1) := by decide +kernel
theorem dX9_may_94 : decode cX9_may 94 = .ok (.iload_n 1, 1) := by decide +kernel
theorem dX9_may_95 : decode cX9_may 95 = .ok (.iconst 1, 1) := by decide +kernel
theorem dX9_may_96 : decode cX9_may 96 = .ok (.if_icmp .lt 12, 3) := by decide +kernel
theorem dX9_may_99 : decode cX9_may 99 = .ok (.iload_n 2, 1) := by decide +kernel
theorem dX9_may_100 : decode cX9_may 100 = .ok (.iconst 1, 1) := by decide +kernel
theorem dX9_may_101 : decode cX9_may 101 = .ok (.if_icmp .lt 7, 3) := by decide +kernel
theorem dX9_may_104 : decode cX9_may 104 = .ok (.iconst 1, 1) := by decide +kernel
theorem dX9_may_105 : decode cX9_may 105 = .ok (.goto 4, 3) := by decide +kernel
theorem dX9_may_108 : decode cX9_may 108 = .ok (.iconst 0, 1) := by decide +kernel
theorem dX9_may_109 : decode cX9_may 109 = .ok (.ireturn, 1) := by decide +kernel
theorem dX9_may_110 : decode cX9_may 110 = .ok (.iconst 0, 1) := by decide +kernel
theorem dX9_may_111 : decode cX9_may 111 = .ok (.ireturn, 1) := by decide +kernel
theorem dX9_sizeOf_0 : decode cX9_sizeOf 0 = .ok (.iload_n 0, 1) := by decide +kernel
theorem dX9_sizeOf_1 : decode cX9_sizeOf 1 = .ok (.iconst 2, 1) := by decide +kernel
theorem dX9_sizeOf_2 : decode cX9_sizeOf 2 = .ok (.if_icmp .ge 8, 3) := by decide +kernel
theorem dX9_sizeOf_5 : decode cX9_sizeOf 5 = .ok (.iload_n 1, 1) := by decide +kernel
theorem dX9_sizeOf_6 : decode cX9_sizeOf 6 = .ok (.i2l, 1) := by decide +kernel
theorem dX9_sizeOf_7 : decode cX9_sizeOf 7 = .ok (.goto 36, 3) := by decide +kernel
theorem dX9_sizeOf_10 : decode cX9_sizeOf 10 = .ok (.iload_n 0, 1) := by decide +kernel
theorem dX9_sizeOf_11 : decode cX9_sizeOf 11 = .ok (.iconst 2, 1) := by decide +kernel
theorem dX9_sizeOf_12 : decode cX9_sizeOf 12 = .ok (.if_icmp .ne 12, 3) := by decide +kernel
theorem dX9_sizeOf_15 : decode cX9_sizeOf 15 = .ok (.iload_n 1, 1) := by decide +kernel
theorem dX9_sizeOf_16 : decode cX9_sizeOf 16 = .ok (.iload_n 2, 1) := by decide +kernel
theorem dX9_sizeOf_17 : decode cX9_sizeOf 17 = .ok (.invokestatic 147, 3) := by decide +kernel
theorem dX9_sizeOf_20 : decode cX9_sizeOf 20 = .ok (.i2l, 1) := by decide +kernel
theorem dX9_sizeOf_21 : decode cX9_sizeOf 21 = .ok (.goto 22, 3) := by decide +kernel
theorem dX9_sizeOf_24 : decode cX9_sizeOf 24 = .ok (.iload_n 0, 1) := by decide +kernel
theorem dX9_sizeOf_25 : decode cX9_sizeOf 25 = .ok (.iconst 5, 1) := by decide +kernel
theorem dX9_sizeOf_26 : decode cX9_sizeOf 26 = .ok (.if_icmp .ge 12, 3) := by decide +kernel
theorem dX9_sizeOf_29 : decode cX9_sizeOf 29 = .ok (.iload_n 1, 1) := by decide +kernel
theorem dX9_sizeOf_30 : decode cX9_sizeOf 30 = .ok (.iload_n 2, 1) := by decide +kernel
theorem dX9_sizeOf_31 : decode cX9_sizeOf 31 = .ok (.invokestatic 151, 3) := by decide +kernel
theorem dX9_sizeOf_34 : decode cX9_sizeOf 34 = .ok (.i2l, 1) := by decide +kernel
theorem dX9_sizeOf_35 : decode cX9_sizeOf 35 = .ok (.goto 8, 3) := by decide +kernel
theorem dX9_sizeOf_38 : decode cX9_sizeOf 38 = .ok (.iload_n 1, 1) := by decide +kernel
theorem dX9_sizeOf_39 : decode cX9_sizeOf 39 = .ok (.i2l, 1) := by decide +kernel
theorem dX9_sizeOf_40 : decode cX9_sizeOf 40 = .ok (.iload_n 2, 1) := by decide +kernel
theorem dX9_sizeOf_41 : decode cX9_sizeOf 41 = .ok (.i2l, 1) := by decide +kernel
theorem dX9_sizeOf_42 : decode cX9_sizeOf 42 = .ok (.ladd, 1) := by decide +kernel
theorem dX9_sizeOf_43 : decode cX9_sizeOf 43 = .ok (.lreturn, 1) := by decide +kernel
theorem dX9_isMade_0 : decode cX9_isMade 0 = .ok (.iload_n 1, 1) := by decide +kernel
theorem dX9_isMade_1 : decode cX9_isMade 1 = .ok (.tableswitch 138 0 4 #[35, 63, 65, 84, 114], 35) := by decide +kernel
theorem dX9_isMade_36 : decode cX9_isMade 36 = .ok (.iload 4, 2) := by decide +kernel
theorem dX9_isMade_38 : decode cX9_isMade 38 = .ok (.iconst 1, 1) := by decide +kernel
theorem dX9_isMade_39 : decode cX9_isMade 39 = .ok (.iadd, 1) := by decide +kernel
theorem dX9_isMade_40 : decode cX9_isMade 40 = .ok (.iload_n 2, 1) := by decide +kernel
theorem dX9_isMade_41 : decode cX9_isMade 41 = .ok (.irem, 1) := by decide +kernel
theorem dX9_isMade_42 : decode cX9_isMade 42 = .ok (.iload 5, 2) := by decide +kernel
theorem dX9_isMade_44 : decode cX9_isMade 44 = .ok (.if_icmp .eq 14, 3) := by decide +kernel
theorem dX9_isMade_47 : decode cX9_isMade 47 = .ok (.iload 5, 2) := by decide +kernel
theorem dX9_isMade_49 : decode cX9_isMade 49 = .ok (.iconst 1, 1) := by decide +kernel
theorem dX9_isMade_50 : decode cX9_isMade 50 = .ok (.iadd, 1) := by decide +kernel
theorem dX9_isMade_51 : decode cX9_isMade 51 = .ok (.iload_n 2, 1) := by decide +kernel
theorem dX9_isMade_52 : decode cX9_isMade 52 = .ok (.irem, 1) := by decide +kernel
theorem dX9_isMade_53 : decode cX9_isMade 53 = .ok (.iload 4, 2) := by decide +kernel
theorem dX9_isMade_55 : decode cX9_isMade 55 = .ok (.if_icmp .ne 7, 3) := by decide +kernel
theorem dX9_isMade_58 : decode cX9_isMade 58 = .ok (.iconst 1, 1) := by decide +kernel
theorem dX9_isMade_59 : decode cX9_isMade 59 = .ok (.goto 4, 3) := by decide +kernel
theorem dX9_isMade_62 : decode cX9_isMade 62 = .ok (.iconst 0, 1) := by decide +kernel
theorem dX9_isMade_63 : decode cX9_isMade 63 = .ok (.ireturn, 1) := by decide +kernel
theorem dX9_isMade_64 : decode cX9_isMade 64 = .ok (.iconst 1, 1) := by decide +kernel
theorem dX9_isMade_65 : decode cX9_isMade 65 = .ok (.ireturn, 1) := by decide +kernel
theorem dX9_isMade_66 : decode cX9_isMade 66 = .ok (.iload 4, 2) := by decide +kernel
theorem dX9_isMade_68 : decode cX9_isMade 68 = .ok (.iload 5, 2) := by decide +kernel
theorem dX9_isMade_70 : decode cX9_isMade 70 = .ok (.iload_n 2, 1) := by decide +kernel
theorem dX9_isMade_71 : decode cX9_isMade 71 = .ok (.iload_n 3, 1) := by decide +kernel
theorem dX9_isMade_72 : decode cX9_isMade 72 = .ok (.invokestatic 154, 3) := by decide +kernel
theorem dX9_isMade_75 : decode cX9_isMade 75 = .ok (.iconst 1, 1) := by decide +kernel
theorem dX9_isMade_76 : decode cX9_isMade 76 = .ok (.if_icmp .ne 7, 3) := by decide +kernel
theorem dX9_isMade_79 : decode cX9_isMade 79 = .ok (.iconst 1, 1) := by decide +kernel
theorem dX9_isMade_80 : decode cX9_isMade 80 = .ok (.goto 4, 3) := by decide +kernel
theorem dX9_isMade_83 : decode cX9_isMade 83 = .ok (.iconst 0, 1) := by decide +kernel
theorem dX9_isMade_84 : decode cX9_isMade 84 = .ok (.ireturn, 1) := by decide +kernel
theorem dX9_isMade_85 : decode cX9_isMade 85 = .ok (.aload_n 0, 1) := by decide +kernel
theorem dX9_isMade_86 : decode cX9_isMade 86 = .ok (.getfield 36, 3) := by decide +kernel
theorem dX9_isMade_89 : decode cX9_isMade 89 = .ok (.iload 4, 2) := by decide +kernel
theorem dX9_isMade_91 : decode cX9_isMade 91 = .ok (.iaload, 1) := by decide +kernel
theorem dX9_isMade_92 : decode cX9_isMade 92 = .ok (.aload_n 0, 1) := by decide +kernel
theorem dX9_isMade_93 : decode cX9_isMade 93 = .ok (.getfield 36, 3) := by decide +kernel
theorem dX9_isMade_96 : decode cX9_isMade 96 = .ok (.iload 5, 2) := by decide +kernel
theorem dX9_isMade_98 : decode cX9_isMade 98 = .ok (.iaload, 1) := by decide +kernel
theorem dX9_isMade_99 : decode cX9_isMade 99 = .ok (.iand, 1) := by decide +kernel
theorem dX9_isMade_100 : decode cX9_isMade 100 = .ok (.invokestatic 158, 3) := by decide +kernel
theorem dX9_isMade_103 : decode cX9_isMade 103 = .ok (.iload_n 3, 1) := by decide +kernel
theorem dX9_isMade_104 : decode cX9_isMade 104 = .ok (.iconst 1, 1) := by decide +kernel
theorem dX9_isMade_105 : decode cX9_isMade 105 = .ok (.isub, 1) := by decide +kernel
theorem dX9_isMade_106 : decode cX9_isMade 106 = .ok (.if_icmp .ne 7, 3) := by decide +kernel
theorem dX9_isMade_109 : decode cX9_isMade 109 = .ok (.iconst 1, 1) := by decide +kernel
theorem dX9_isMade_110 : decode cX9_isMade 110 = .ok (.goto 4, 3) := by decide +kernel
theorem dX9_isMade_113 : decode cX9_isMade 113 = .ok (.iconst 0, 1) := by decide +kernel
theorem dX9_isMade_114 : decode cX9_isMade 114 = .ok (.ireturn, 1) := by decide +kernel
theorem dX9_isMade_115 : decode cX9_isMade 115 = .ok (.aload_n 0, 1) := by decide +kernel
theorem dX9_isMade_116 : decode cX9_isMade 116 = .ok (.getfield 36, 3) := by decide +kernel
theorem dX9_isMade_119 : decode cX9_isMade 119 = .ok (.iload 4, 2) := by decide +kernel
theorem dX9_isMade_121 : decode cX9_isMade 121 = .ok (.iaload, 1) := by decide +kernel
theorem dX9_isMade_122 : decode cX9_isMade 122 = .ok (.aload_n 0, 1) := by decide +kernel
theorem dX9_isMade_123 : decode cX9_isMade 123 = .ok (.getfield 36, 3) := by decide +kernel
theorem dX9_isMade_126 : decode cX9_isMade 126 = .ok (.iload 5, 2) := by decide +kernel
theorem dX9_isMade_128 : decode cX9_isMade 128 = .ok (.iaload, 1) := by decide +kernel
theorem dX9_isMade_129 : decode cX9_isMade 129 = .ok (.iand, 1) := by decide +kernel
theorem dX9_isMade_130 : decode cX9_isMade 130 = .ok (.ifCond .ne 7, 3) := by decide +kernel
theorem dX9_isMade_133 : decode cX9_isMade 133 = .ok (.iconst 1, 1) := by decide +kernel
theorem dX9_isMade_134 : decode cX9_isMade 134 = .ok (.goto 4, 3) := by decide +kernel
theorem dX9_isMade_137 : decode cX9_isMade 137 = .ok (.iconst 0, 1) := by decide +kernel
theorem dX9_isMade_138 : decode cX9_isMade 138 = .ok (.ireturn, 1) := by decide +kernel
theorem dX9_isMade_139 : decode cX9_isMade 139 = .ok (.iload 4, 2) := by decide +kernel
theorem dX9_isMade_141 : decode cX9_isMade 141 = .ok (.iload_n 2, 1) := by decide +kernel
theorem dX9_isMade_142 : decode cX9_isMade 142 = .ok (.if_icmp .ge 7, 3) := by decide +kernel
theorem dX9_isMade_145 : decode cX9_isMade 145 = .ok (.iconst 1, 1) := by decide +kernel
theorem dX9_isMade_146 : decode cX9_isMade 146 = .ok (.goto 4, 3) := by decide +kernel
theorem dX9_isMade_149 : decode cX9_isMade 149 = .ok (.iconst 0, 1) := by decide +kernel
theorem dX9_isMade_150 : decode cX9_isMade 150 = .ok (.iload 5, 2) := by decide +kernel
theorem dX9_isMade_152 : decode cX9_isMade 152 = .ok (.iload_n 2, 1) := by decide +kernel
theorem dX9_isMade_153 : decode cX9_isMade 153 = .ok (.if_icmp .ge 7, 3) := by decide +kernel
theorem dX9_isMade_156 : decode cX9_isMade 156 = .ok (.iconst 1, 1) := by decide +kernel
theorem dX9_isMade_157 : decode cX9_isMade 157 = .ok (.goto 4, 3) := by decide +kernel
theorem dX9_isMade_160 : decode cX9_isMade 160 = .ok (.iconst 0, 1) := by decide +kernel
theorem dX9_isMade_161 : decode cX9_isMade 161 = .ok (.if_icmp .eq 7, 3) := by decide +kernel
theorem dX9_isMade_164 : decode cX9_isMade 164 = .ok (.iconst 1, 1) := by decide +kernel
theorem dX9_isMade_165 : decode cX9_isMade 165 = .ok (.goto 4, 3) := by decide +kernel
theorem dX9_isMade_168 : decode cX9_isMade 168 = .ok (.iconst 0, 1) := by decide +kernel
theorem dX9_isMade_169 : decode cX9_isMade 169 = .ok (.ireturn, 1) := by decide +kernel
theorem dX9_build_0 : decode cX9_build 0 = .ok (.iload_n 1, 1) := by decide +kernel
theorem dX9_build_1 : decode cX9_build 1 = .ok (.iload_n 2, 1) := by decide +kernel
theorem dX9_build_2 : decode cX9_build 2 = .ok (.iload_n 3, 1) := by decide +kernel
theorem dX9_build_3 : decode cX9_build 3 = .ok (.invokestatic 162, 3) := by decide +kernel
theorem dX9_build_6 : decode cX9_build 6 = .ok (.ifCond .ne 5, 3) := by decide +kernel
theorem dX9_build_9 : decode cX9_build 9 = .ok (.iconst (-1), 1) := by decide +kernel
theorem dX9_build_10 : decode cX9_build 10 = .ok (.ireturn, 1) := by decide +kernel
theorem dX9_build_11 : decode cX9_build 11 = .ok (.iload_n 1, 1) := by decide +kernel
theorem dX9_build_12 : decode cX9_build 12 = .ok (.iload_n 2, 1) := by decide +kernel
theorem dX9_build_13 : decode cX9_build 13 = .ok (.iload_n 3, 1) := by decide +kernel
theorem dX9_build_14 : decode cX9_build 14 = .ok (.invokestatic 166, 3) := by decide +kernel
theorem dX9_build_17 : decode cX9_build 17 = .ok (.lstore 4, 2) := by decide +kernel
theorem dX9_build_19 : decode cX9_build 19 = .ok (.lload 4, 2) := by decide +kernel
theorem dX9_build_21 : decode cX9_build 21 = .ok (.ldc2_w 132, 3) := by decide +kernel
theorem dX9_build_24 : decode cX9_build 24 = .ok (.lcmp, 1) := by decide +kernel
theorem dX9_build_25 : decode cX9_build 25 = .ok (.ifCond .le 6, 3) := by decide +kernel
theorem dX9_build_28 : decode cX9_build 28 = .ok (.bipush (-2), 2) := by decide +kernel
theorem dX9_build_30 : decode cX9_build 30 = .ok (.ireturn, 1) := by decide +kernel
theorem dX9_build_31 : decode cX9_build 31 = .ok (.iload_n 1, 1) := by decide +kernel
theorem dX9_build_32 : decode cX9_build 32 = .ok (.iconst 3, 1) := by decide +kernel
theorem dX9_build_33 : decode cX9_build 33 = .ok (.if_icmp .eq 8, 3) := by decide +kernel
theorem dX9_build_36 : decode cX9_build 36 = .ok (.iload_n 1, 1) := by decide +kernel
theorem dX9_build_37 : decode cX9_build 37 = .ok (.iconst 4, 1) := by decide +kernel
theorem dX9_build_38 : decode cX9_build 38 = .ok (.if_icmp .ne 11, 3) := by decide +kernel
theorem dX9_build_41 : decode cX9_build 41 = .ok (.aload_n 0, 1) := by decide +kernel
theorem dX9_build_42 : decode cX9_build 42 = .ok (.iload_n 2, 1) := by decide +kernel
theorem dX9_build_43 : decode cX9_build 43 = .ok (.iload_n 3, 1) := by decide +kernel
theorem dX9_build_44 : decode cX9_build 44 = .ok (.invokevirtual 170, 3) := by decide +kernel
theorem dX9_build_47 : decode cX9_build 47 = .ok (.istore 6, 2) := by decide +kernel
theorem dX9_build_49 : decode cX9_build 49 = .ok (.aload_n 0, 1) := by decide +kernel
theorem dX9_build_50 : decode cX9_build 50 = .ok (.lload 4, 2) := by decide +kernel
theorem dX9_build_52 : decode cX9_build 52 = .ok (.l2i, 1) := by decide +kernel
theorem dX9_build_53 : decode cX9_build 53 = .ok (.invokevirtual 134, 3) := by decide +kernel
theorem dX9_build_56 : decode cX9_build 56 = .ok (.iconst 0, 1) := by decide +kernel
theorem dX9_build_57 : decode cX9_build 57 = .ok (.istore 6, 2) := by decide +kernel
theorem dX9_build_59 : decode cX9_build 59 = .ok (.iload 6, 2) := by decide +kernel
theorem dX9_build_61 : decode cX9_build 61 = .ok (.aload_n 0, 1) := by decide +kernel
theorem dX9_build_62 : decode cX9_build 62 = .ok (.getfield 116, 3) := by decide +kernel
theorem dX9_build_65 : decode cX9_build 65 = .ok (.if_icmp .ge 50, 3) := by decide +kernel
theorem dX9_build_68 : decode cX9_build 68 = .ok (.iconst 0, 1) := by decide +kernel
theorem dX9_build_69 : decode cX9_build 69 = .ok (.istore 7, 2) := by decide +kernel
theorem dX9_build_71 : decode cX9_build 71 = .ok (.iload 7, 2) := by decide +kernel
theorem dX9_build_73 : decode cX9_build 73 = .ok (.iload 6, 2) := by decide +kernel
theorem dX9_build_75 : decode cX9_build 75 = .ok (.if_icmp .ge 34, 3) := by decide +kernel
theorem dX9_build_78 : decode cX9_build 78 = .ok (.aload_n 0, 1) := by decide +kernel
theorem dX9_build_79 : decode cX9_build 79 = .ok (.iload_n 1, 1) := by decide +kernel
theorem dX9_build_80 : decode cX9_build 80 = .ok (.iload_n 2, 1) := by decide +kernel
theorem dX9_build_81 : decode cX9_build 81 = .ok (.iload_n 3, 1) := by decide +kernel
theorem dX9_build_82 : decode cX9_build 82 = .ok (.iload 6, 2) := by decide +kernel
theorem dX9_build_84 : decode cX9_build 84 = .ok (.iload 7, 2) := by decide +kernel
theorem dX9_build_86 : decode cX9_build 86 = .ok (.invokevirtual 173, 3) := by decide +kernel
theorem dX9_build_89 : decode cX9_build 89 = .ok (.ifCond .eq 14, 3) := by decide +kernel
theorem dX9_build_92 : decode cX9_build 92 = .ok (.aload_n 0, 1) := by decide +kernel
theorem dX9_build_93 : decode cX9_build 93 = .ok (.iload 6, 2) := by decide +kernel
theorem dX9_build_95 : decode cX9_build 95 = .ok (.iload 7, 2) := by decide +kernel
theorem dX9_build_97 : decode cX9_build 97 = .ok (.iconst 1, 1) := by decide +kernel
theorem dX9_build_98 : decode cX9_build 98 = .ok (.invokevirtual 141, 3) := by decide +kernel
theorem dX9_build_101 : decode cX9_build 101 = .ok (.istore 8, 2) := by decide +kernel
theorem dX9_build_103 : decode cX9_build 103 = .ok (.iinc 7 1, 3) := by decide +kernel
theorem dX9_build_106 : decode cX9_build 106 = .ok (.goto (-35), 3) := by decide +kernel
theorem dX9_build_109 : decode cX9_build 109 = .ok (.iinc 6 1, 3) := by decide +kernel
theorem dX9_build_112 : decode cX9_build 112 = .ok (.goto (-53), 3) := by decide +kernel
theorem dX9_build_115 : decode cX9_build 115 = .ok (.aload_n 0, 1) := by decide +kernel
theorem dX9_build_116 : decode cX9_build 116 = .ok (.getfield 116, 3) := by decide +kernel
theorem dX9_build_119 : decode cX9_build 119 = .ok (.ireturn, 1) := by decide +kernel
theorem dX9_measureFrom_0 : decode cX9_measureFrom 0 = .ok (.iconst 0, 1) := by decide +kernel
theorem dX9_measureFrom_1 : decode cX9_measureFrom 1 = .ok (.istore_n 2, 1) := by decide +kernel
theorem dX9_measureFrom_2 : decode cX9_measureFrom 2 = .ok (.iload_n 2, 1) := by decide +kernel
theorem dX9_measureFrom_3 : decode cX9_measureFrom 3 = .ok (.bipush 32, 2) := by decide +kernel
theorem dX9_measureFrom_5 : decode cX9_measureFrom 5 = .ok (.if_icmp .ge 31, 3) := by decide +kernel
theorem dX9_measureFrom_8 : decode cX9_measureFrom 8 = .ok (.aload_n 0, 1) := by decide +kernel
theorem dX9_measureFrom_9 : decode cX9_measureFrom 9 = .ok (.getfield 39, 3) := by decide +kernel
theorem dX9_measureFrom_12 : decode cX9_measureFrom 12 = .ok (.bipush 32, 2) := by decide +kernel
theorem dX9_measureFrom_14 : decode cX9_measureFrom 14 = .ok (.iload_n 1, 1) := by decide +kernel
theorem dX9_measureFrom_15 : decode cX9_measureFrom 15 = .ok (.imul, 1) := by decide +kernel
theorem dX9_measureFrom_16 : decode cX9_measureFrom 16 = .ok (.iload_n 2, 1) := by decide +kernel
theorem dX9_measureFrom_17 : decode cX9_measureFrom 17 = .ok (.iadd, 1) := by decide +kernel
theorem dX9_measureFrom_18 : decode cX9_measureFrom 18 = .ok (.iload_n 2, 1) := by decide +kernel
theorem dX9_measureFrom_19 : decode cX9_measureFrom 19 = .ok (.iload_n 1, 1) := by decide +kernel
theorem dX9_measureFrom_20 : decode cX9_measureFrom 20 = .ok (.if_icmp .ne 7, 3) := by decide +kernel
theorem dX9_measureFrom_23 : decode cX9_measureFrom 23 = .ok (.iconst 0, 1) := by decide +kernel
theorem dX9_measureFrom_24 : decode cX9_measureFrom 24 = .ok (.goto 5, 3) := by decide +kernel
theorem dX9_measureFrom_27 : decode cX9_measureFrom 27 = .ok (.bipush 99, 2) := by decide +kernel
theorem dX9_measureFrom_29 : decode cX9_measureFrom 29 = .ok (.iastore, 1) := by decide +kernel
theorem dX9_measureFrom_30 : decode cX9_measureFrom 30 = .ok (.iinc 2 1, 3) := by decide +kernel
theorem dX9_measureFrom_33 : decode cX9_measureFrom 33 = .ok (.goto (-31), 3) := by decide +kernel
theorem dX9_measureFrom_36 : decode cX9_measureFrom 36 = .ok (.iconst 0, 1) := by decide +kernel
theorem dX9_measureFrom_37 : decode cX9_measureFrom 37 = .ok (.istore_n 2, 1) := by decide +kernel
theorem dX9_measureFrom_38 : decode cX9_measureFrom 38 = .ok (.iload_n 2, 1) := by decide +kernel
theorem dX9_measureFrom_39 : decode cX9_measureFrom 39 = .ok (.aload_n 0, 1) := by decide +kernel
theorem dX9_measureFrom_40 : decode cX9_measureFrom 40 = .ok (.getfield 116, 3) := by decide +kernel
theorem dX9_measureFrom_43 : decode cX9_measureFrom 43 = .ok (.if_icmp .ge 105, 3) := by decide +kernel
theorem dX9_measureFrom_46 : decode cX9_measureFrom 46 = .ok (.iconst 0, 1) := by decide +kernel
theorem dX9_measureFrom_47 : decode cX9_measureFrom 47 = .ok (.istore_n 3, 1) := by decide +kernel
theorem dX9_measureFrom_48 : decode cX9_measureFrom 48 = .ok (.iload_n 3, 1) := by decide +kernel
theorem dX9_measureFrom_49 : decode cX9_measureFrom 49 = .ok (.aload_n 0, 1) := by decide +kernel
theorem dX9_measureFrom_50 : decode cX9_measureFrom 50 = .ok (.getfield 116, 3) := by decide +kernel
theorem dX9_measureFrom_53 : decode cX9_measureFrom 53 = .ok (.if_icmp .ge 89, 3) := by decide +kernel
theorem dX9_measureFrom_56 : decode cX9_measureFrom 56 = .ok (.iconst 0, 1) := by decide +kernel
theorem dX9_measureFrom_57 : decode cX9_measureFrom 57 = .ok (.istore 4, 2) := by decide +kernel
theorem dX9_measureFrom_59 : decode cX9_measureFrom 59 = .ok (.iload 4, 2) := by decide +kernel
theorem dX9_measureFrom_61 : decode cX9_measureFrom 61 = .ok (.aload_n 0, 1) := by decide +kernel
theorem dX9_measureFrom_62 : decode cX9_measureFrom 62 = .ok (.getfield 116, 3) := by decide +kernel
theorem dX9_measureFrom_65 : decode cX9_measureFrom 65 = .ok (.if_icmp .ge 71, 3) := by decide +kernel
theorem dX9_measureFrom_68 : decode cX9_measureFrom 68 = .ok (.aload_n 0, 1) := by decide +kernel
theorem dX9_measureFrom_69 : decode cX9_measureFrom 69 = .ok (.getfield 39, 3) := by decide +kernel
theorem dX9_measureFrom_72 : decode cX9_measureFrom 72 = .ok (.bipush 32, 2) := by decide +kernel
theorem dX9_measureFrom_74 : decode cX9_measureFrom 74 = .ok (.iload_n 1, 1) := by decide +kernel
theorem dX9_measureFrom_75 : decode cX9_measureFrom 75 = .ok (.imul, 1) := by decide +kernel
theorem dX9_measureFrom_76 : decode cX9_measureFrom 76 = .ok (.iload_n 3, 1) := by decide +kernel
theorem dX9_measureFrom_77 : decode cX9_measureFrom 77 = .ok (.iadd, 1) := by decide +kernel
theorem dX9_measureFrom_78 : decode cX9_measureFrom 78 = .ok (.iaload, 1) := by decide +kernel
theorem dX9_measureFrom_79 : decode cX9_measureFrom 79 = .ok (.iload_n 2, 1) := by decide +kernel
theorem dX9_measureFrom_80 : decode cX9_measureFrom 80 = .ok (.if_icmp .ne 56, 3) := by decide +kernel
theorem dX9_measureFrom_83 : decode cX9_measureFrom 83 = .ok (.aload_n 0, 1) := by decide +kernel
theorem dX9_measureFrom_84 : decode cX9_measureFrom 84 = .ok (.getfield 19, 3) := by decide +kernel
theorem dX9_measureFrom_87 : decode cX9_measureFrom 87 = .ok (.bipush 32, 2) := by decide +kernel
theorem dX9_measureFrom_89 : decode cX9_measureFrom 89 = .ok (.iload_n 3, 1) := by decide +kernel
theorem dX9_measureFrom_90 : decode cX9_measureFrom 90 = .ok (.imul, 1) := by decide +kernel
theorem dX9_measureFrom_91 : decode cX9_measureFrom 91 = .ok (.iload 4, 2) := by decide +kernel
theorem dX9_measureFrom_93 : decode cX9_measureFrom 93 = .ok (.iadd, 1) := by decide +kernel
theorem dX9_measureFrom_94 : decode cX9_measureFrom 94 = .ok (.baload, 1) := by decide +kernel
theorem dX9_measureFrom_95 : decode cX9_measureFrom 95 = .ok (.ifCond .eq 35, 3) := by decide +kernel
theorem dX9_measureFrom_98 : decode cX9_measureFrom 98 = .ok (.aload_n 0, 1) := by decide +kernel
theorem dX9_measureFrom_99 : decode cX9_measureFrom 99 = .ok (.getfield 39, 3) := by decide +kernel
theorem dX9_measureFrom_102 : decode cX9_measureFrom 102 = .ok (.bipush 32, 2) := by decide +kernel
theorem dX9_measureFrom_104 : decode cX9_measureFrom 104 = .ok (.iload_n 1, 1) := by decide +kernel
theorem dX9_measureFrom_105 : decode cX9_measureFrom 105 = .ok (.imul, 1) := by decide +kernel
theorem dX9_measureFrom_106 : decode cX9_measureFrom 106 = .ok (.iload 4, 2) := by decide +kernel
theorem dX9_measureFrom_108 : decode cX9_measureFrom 108 = .ok (.iadd, 1) := by decide +kernel
theorem dX9_measureFrom_109 : decode cX9_measureFrom 109 = .ok (.iaload, 1) := by decide +kernel
theorem dX9_measureFrom_110 : decode cX9_measureFrom 110 = .ok (.bipush 99, 2) := by decide +kernel
theorem dX9_measureFrom_112 : decode cX9_measureFrom 112 = .ok (.if_icmp .ne 18, 3) := by decide +kernel
theorem dX9_measureFrom_115 : decode cX9_measureFrom 115 = .ok (.aload_n 0, 1) := by decide +kernel
theorem dX9_measureFrom_116 : decode cX9_measureFrom 116 = .ok (.getfield 39, 3) := by decide +kernel
theorem dX9_measureFrom_119 : decode cX9_measureFrom 119 = .ok (.bipush 32, 2) := by decide +kernel
theorem dX9_measureFrom_121 : decode cX9_measureFrom 121 = .ok (.iload_n 1, 1) := by decide +kernel
theorem dX9_measureFrom_122 : decode cX9_measureFrom 122 = .ok (.imul, 1) := by decide +kernel
theorem dX9_measureFrom_123 : decode cX9_measureFrom 123 = .ok (.iload 4, 2) := by decide +kernel
theorem dX9_measureFrom_125 : decode cX9_measureFrom 125 = .ok (.iadd, 1) := by decide +kernel
theorem dX9_measureFrom_126 : decode cX9_measureFrom 126 = .ok (.iload_n 2, 1) := by decide +kernel
theorem dX9_measureFrom_127 : decode cX9_measureFrom 127 = .ok (.iconst 1, 1) := by decide +kernel
theorem dX9_measureFrom_128 : decode cX9_measureFrom 128 = .ok (.iadd, 1) := by decide +kernel
theorem dX9_measureFrom_129 : decode cX9_measureFrom 129 = .ok (.iastore, 1) := by decide +kernel
theorem dX9_measureFrom_130 : decode cX9_measureFrom 130 = .ok (.iinc 4 1, 3) := by decide +kernel
theorem dX9_measureFrom_133 : decode cX9_measureFrom 133 = .ok (.goto (-74), 3) := by decide +kernel
theorem dX9_measureFrom_136 : decode cX9_measureFrom 136 = .ok (.iinc 3 1, 3) := by decide +kernel
theorem dX9_measureFrom_139 : decode cX9_measureFrom 139 = .ok (.goto (-91), 3) := by decide +kernel
theorem dX9_measureFrom_142 : decode cX9_measureFrom 142 = .ok (.iinc 2 1, 3) := by decide +kernel
theorem dX9_measureFrom_145 : decode cX9_measureFrom 145 = .ok (.goto (-107), 3) := by decide +kernel
theorem dX9_measureFrom_148 : decode cX9_measureFrom 148 = .ok (.return_, 1) := by decide +kernel
theorem dX9_measure_0 : decode cX9_measure 0 = .ok (.aload_n 0, 1) := by decide +kernel
theorem dX9_measure_1 : decode cX9_measure 1 = .ok (.getfield 125, 3) := by decide +kernel
theorem dX9_measure_4 : decode cX9_measure 4 = .ok (.ifCond .eq 4, 3) := by decide +kernel
theorem dX9_measure_7 : decode cX9_measure 7 = .ok (.return_, 1) := by decide +kernel
theorem dX9_measure_8 : decode cX9_measure 8 = .ok (.aload_n 0, 1) := by decide +kernel
theorem dX9_measure_9 : decode cX9_measure 9 = .ok (.iconst 1, 1) := by decide +kernel
theorem dX9_measure_10 : decode cX9_measure 10 = .ok (.putfield 125, 3) := by decide +kernel
theorem dX9_measure_13 : decode cX9_measure 13 = .ok (.aload_n 0, 1) := by decide +kernel
theorem dX9_measure_14 : decode cX9_measure 14 = .ok (.iconst 0, 1) := by decide +kernel
theorem dX9_measure_15 : decode cX9_measure 15 = .ok (.putfield 177, 3) := by decide +kernel
theorem dX9_measure_18 : decode cX9_measure 18 = .ok (.aload_n 0, 1) := by decide +kernel
theorem dX9_measure_19 : decode cX9_measure 19 = .ok (.iconst 0, 1) := by decide +kernel
theorem dX9_measure_20 : decode cX9_measure 20 = .ok (.putfield 180, 3) := by decide +kernel
theorem dX9_measure_23 : decode cX9_measure 23 = .ok (.iconst 0, 1) := by decide +kernel
theorem dX9_measure_24 : decode cX9_measure 24 = .ok (.istore_n 1, 1) := by decide +kernel
theorem dX9_measure_25 : decode cX9_measure 25 = .ok (.iload_n 1, 1) := by decide +kernel
theorem dX9_measure_26 : decode cX9_measure 26 = .ok (.aload_n 0, 1) := by decide +kernel
theorem dX9_measure_27 : decode cX9_measure 27 = .ok (.getfield 116, 3) := by decide +kernel
theorem dX9_measure_30 : decode cX9_measure 30 = .ok (.if_icmp .ge 121, 3) := by decide +kernel
theorem dX9_measure_33 : decode cX9_measure 33 = .ok (.aload_n 0, 1) := by decide +kernel
theorem dX9_measure_34 : decode cX9_measure 34 = .ok (.iload_n 1, 1) := by decide +kernel
theorem dX9_measure_35 : decode cX9_measure 35 = .ok (.invokevirtual 183, 3) := by decide +kernel
theorem dX9_measure_38 : decode cX9_measure 38 = .ok (.iconst 1, 1) := by decide +kernel
theorem dX9_measure_39 : decode cX9_measure 39 = .ok (.istore_n 2, 1) := by decide +kernel
theorem dX9_measure_40 : decode cX9_measure 40 = .ok (.iconst 0, 1) := by decide +kernel
theorem dX9_measure_41 : decode cX9_measure 41 = .ok (.istore_n 3, 1) := by decide +kernel
theorem dX9_measure_42 : decode cX9_measure 42 = .ok (.iload_n 3, 1) := by decide +kernel
theorem dX9_measure_43 : decode cX9_measure 43 = .ok (.aload_n 0, 1) := by decide +kernel
theorem dX9_measure_44 : decode cX9_measure 44 = .ok (.getfield 116, 3) := by decide +kernel
theorem dX9_measure_47 : decode cX9_measure 47 = .ok (.if_icmp .ge 80, 3) := by decide +kernel
theorem dX9_measure_50 : decode cX9_measure 50 = .ok (.aload_n 0, 1) := by decide +kernel
theorem dX9_measure_51 : decode cX9_measure 51 = .ok (.aload_n 0, 1) := by decide +kernel
theorem dX9_measure_52 : decode cX9_measure 52 = .ok (.getfield 39, 3) := by decide +kernel
theorem dX9_measure_55 : decode cX9_measure 55 = .ok (.bipush 32, 2) := by decide +kernel
theorem dX9_measure_57 : decode cX9_measure 57 = .ok (.iload_n 1, 1) := by decide +kernel
theorem dX9_measure_58 : decode cX9_measure 58 = .ok (.imul, 1) := by decide +kernel
theorem dX9_measure_59 : decode cX9_measure 59 = .ok (.iload_n 3, 1) := by decide +kernel
theorem dX9_measure_60 : decode cX9_measure 60 = .ok (.iadd, 1) := by decide +kernel
theorem dX9_measure_61 : decode cX9_measure 61 = .ok (.iaload, 1) := by decide +kernel
theorem dX9_measure_62 : decode cX9_measure 62 = .ok (.aload_n 0, 1) := by decide +kernel
theorem dX9_measure_63 : decode cX9_measure 63 = .ok (.getfield 177, 3) := by decide +kernel
theorem dX9_measure_66 : decode cX9_measure 66 = .ok (.if_icmp .le 17, 3) := by decide +kernel
theorem dX9_measure_69 : decode cX9_measure 69 = .ok (.aload_n 0, 1) := by decide +kernel
theorem dX9_measure_70 : decode cX9_measure 70 = .ok (.getfield 39, 3) := by decide +kernel
theorem dX9_measure_73 : decode cX9_measure 73 = .ok (.bipush 32, 2) := by decide +kernel
theorem dX9_measure_75 : decode cX9_measure 75 = .ok (.iload_n 1, 1) := by decide +kernel
theorem dX9_measure_76 : decode cX9_measure 76 = .ok (.imul, 1) := by decide +kernel
theorem dX9_measure_77 : decode cX9_measure 77 = .ok (.iload_n 3, 1) := by decide +kernel
theorem dX9_measure_78 : decode cX9_measure 78 = .ok (.iadd, 1) := by decide +kernel
theorem dX9_measure_79 : decode cX9_measure 79 = .ok (.iaload, 1) := by decide +kernel
theorem dX9_measure_80 : decode cX9_measure 80 = .ok (.goto 7, 3) := by decide +kernel
theorem dX9_measure_83 : decode cX9_measure 83 = .ok (.aload_n 0, 1) := by decide +kernel
theorem dX9_measure_84 : decode cX9_measure 84 = .ok (.getfield 177, 3) := by decide +kernel
theorem dX9_measure_87 : decode cX9_measure 87 = .ok (.putfield 177, 3) := by decide +kernel
theorem dX9_measure_90 : decode cX9_measure 90 = .ok (.iload_n 2, 1) := by decide +kernel
theorem dX9_measure_91 : decode cX9_measure 91 = .ok (.ifCond .eq 28, 3) := by decide +kernel
theorem dX9_measure_94 : decode cX9_measure 94 = .ok (.iload_n 3, 1) := by decide +kernel
theorem dX9_measure_95 : decode cX9_measure 95 = .ok (.iload_n 1, 1) := by decide +kernel
theorem dX9_measure_96 : decode cX9_measure 96 = .ok (.if_icmp .ge 19, 3) := by decide +kernel
theorem dX9_measure_99 : decode cX9_measure 99 = .ok (.aload_n 0, 1) := by decide +kernel
theorem dX9_measure_100 : decode cX9_measure 100 = .ok (.getfield 39, 3) := by decide +kernel
theorem dX9_measure_103 : decode cX9_measure 103 = .ok (.bipush 32, 2) := by decide +kernel
theorem dX9_measure_105 : decode cX9_measure 105 = .ok (.iload_n 1, 1) := by decide +kernel
theorem dX9_measure_106 : decode cX9_measure 106 = .ok (.imul, 1) := by decide +kernel
theorem dX9_measure_107 : decode cX9_measure 107 = .ok (.iload_n 3, 1) := by decide +kernel
theorem dX9_measure_108 : decode cX9_measure 108 = .ok (.iadd, 1) := by decide +kernel
theorem dX9_measure_109 : decode cX9_measure 109 = .ok (.iaload, 1) := by decide +kernel
theorem dX9_measure_110 : decode cX9_measure 110 = .ok (.bipush 99, 2) := by decide +kernel
theorem dX9_measure_112 : decode cX9_measure 112 = .ok (.if_icmp .ne 7, 3) := by decide +kernel
theorem dX9_measure_115 : decode cX9_measure 115 = .ok (.iconst 1, 1) := by decide +kernel
theorem dX9_measure_116 : decode cX9_measure 116 = .ok (.goto 4, 3) := by decide +kernel
theorem dX9_measure_119 : decode cX9_measure 119 = .ok (.iconst 0, 1) := by decide +kernel
theorem dX9_measure_120 : decode cX9_measure 120 = .ok (.istore_n 2, 1) := by decide +kernel
theorem dX9_measure_121 : decode cX9_measure 121 = .ok (.iinc 3 1, 3) := by decide +kernel
theorem dX9_measure_124 : decode cX9_measure 124 = .ok (.goto (-82), 3) := by decide +kernel
theorem dX9_measure_127 : decode cX9_measure 127 = .ok (.aload_n 0, 1) := by decide +kernel
theorem dX9_measure_128 : decode cX9_measure 128 = .ok (.dup, 1) := by decide +kernel
theorem dX9_measure_129 : decode cX9_measure 129 = .ok (.getfield 180, 3) := by decide +kernel
theorem dX9_measure_132 : decode cX9_measure 132 = .ok (.iload_n 2, 1) := by decide +kernel
theorem dX9_measure_133 : decode cX9_measure 133 = .ok (.ifCond .eq 7, 3) := by decide +kernel
theorem dX9_measure_136 : decode cX9_measure 136 = .ok (.iconst 1, 1) := by decide +kernel
theorem dX9_measure_137 : decode cX9_measure 137 = .ok (.goto 4, 3) := by decide +kernel
theorem dX9_measure_140 : decode cX9_measure 140 = .ok (.iconst 0, 1) := by decide +kernel
theorem dX9_measure_141 : decode cX9_measure 141 = .ok (.iadd, 1) := by decide +kernel
theorem dX9_measure_142 : decode cX9_measure 142 = .ok (.putfield 180, 3) := by decide +kernel
theorem dX9_measure_145 : decode cX9_measure 145 = .ok (.iinc 1 1, 3) := by decide +kernel
theorem dX9_measure_148 : decode cX9_measure 148 = .ok (.goto (-123), 3) := by decide +kernel
theorem dX9_measure_151 : decode cX9_measure 151 = .ok (.return_, 1) := by decide +kernel
theorem dX9_isWhole_0 : decode cX9_isWhole 0 = .ok (.aload_n 0, 1) := by decide +kernel
theorem dX9_isWhole_1 : decode cX9_isWhole 1 = .ok (.invokevirtual 186, 3) := by decide +kernel
theorem dX9_isWhole_4 : decode cX9_isWhole 4 = .ok (.aload_n 0, 1) := by decide +kernel
theorem dX9_isWhole_5 : decode cX9_isWhole 5 = .ok (.getfield 180, 3) := by decide +kernel
theorem dX9_isWhole_8 : decode cX9_isWhole 8 = .ok (.iconst 1, 1) := by decide +kernel
theorem dX9_isWhole_9 : decode cX9_isWhole 9 = .ok (.if_icmp .ne 7, 3) := by decide +kernel
theorem dX9_isWhole_12 : decode cX9_isWhole 12 = .ok (.iconst 1, 1) := by decide +kernel
theorem dX9_isWhole_13 : decode cX9_isWhole 13 = .ok (.goto 4, 3) := by decide +kernel
theorem dX9_isWhole_16 : decode cX9_isWhole 16 = .ok (.iconst 0, 1) := by decide +kernel
theorem dX9_isWhole_17 : decode cX9_isWhole 17 = .ok (.ireturn, 1) := by decide +kernel
theorem dX9_way_0 : decode cX9_way 0 = .ok (.aload_n 0, 1) := by decide +kernel
theorem dX9_way_1 : decode cX9_way 1 = .ok (.iload_n 1, 1) := by decide +kernel
theorem dX9_way_2 : decode cX9_way 2 = .ok (.invokevirtual 138, 3) := by decide +kernel
theorem dX9_way_5 : decode cX9_way 5 = .ok (.ifCond .eq 11, 3) := by decide +kernel
theorem dX9_way_8 : decode cX9_way 8 = .ok (.aload_n 0, 1) := by decide +kernel
theorem dX9_way_9 : decode cX9_way 9 = .ok (.iload_n 2, 1) := by decide +kernel
theorem dX9_way_10 : decode cX9_way 10 = .ok (.invokevirtual 138, 3) := by decide +kernel
theorem dX9_way_13 : decode cX9_way 13 = .ok (.ifCond .ne 5, 3) := by decide +kernel
theorem dX9_way_16 : decode cX9_way 16 = .ok (.iconst (-1), 1) := by decide +kernel
theorem dX9_way_17 : decode cX9_way 17 = .ok (.ireturn, 1) := by decide +kernel
theorem dX9_way_18 : decode cX9_way 18 = .ok (.aload_n 0, 1) := by decide +kernel
theorem dX9_way_19 : decode cX9_way 19 = .ok (.invokevirtual 186, 3) := by decide +kernel
theorem dX9_way_22 : decode cX9_way 22 = .ok (.aload_n 0, 1) := by decide +kernel
theorem dX9_way_23 : decode cX9_way 23 = .ok (.getfield 39, 3) := by decide +kernel
theorem dX9_way_26 : decode cX9_way 26 = .ok (.bipush 32, 2) := by decide +kernel
theorem dX9_way_28 : decode cX9_way 28 = .ok (.iload_n 1, 1) := by decide +kernel
theorem dX9_way_29 : decode cX9_way 29 = .ok (.imul, 1) := by decide +kernel
theorem dX9_way_30 : decode cX9_way 30 = .ok (.iload_n 2, 1) := by decide +kernel
theorem dX9_way_31 : decode cX9_way 31 = .ok (.iadd, 1) := by decide +kernel
theorem dX9_way_32 : decode cX9_way 32 = .ok (.iaload, 1) := by decide +kernel
theorem dX9_way_33 : decode cX9_way 33 = .ok (.bipush 99, 2) := by decide +kernel
theorem dX9_way_35 : decode cX9_way 35 = .ok (.if_icmp .ne 8, 3) := by decide +kernel
theorem dX9_way_38 : decode cX9_way 38 = .ok (.bipush (-8), 2) := by decide +kernel
theorem dX9_way_40 : decode cX9_way 40 = .ok (.goto 14, 3) := by decide +kernel
theorem dX9_way_43 : decode cX9_way 43 = .ok (.aload_n 0, 1) := by decide +kernel
theorem dX9_way_44 : decode cX9_way 44 = .ok (.getfield 39, 3) := by decide +kernel
theorem dX9_way_47 : decode cX9_way 47 = .ok (.bipush 32, 2) := by decide +kernel
theorem dX9_way_49 : decode cX9_way 49 = .ok (.iload_n 1, 1) := by decide +kernel
theorem dX9_way_50 : decode cX9_way 50 = .ok (.imul, 1) := by decide +kernel
theorem dX9_way_51 : decode cX9_way 51 = .ok (.iload_n 2, 1) := by decide +kernel
theorem dX9_way_52 : decode cX9_way 52 = .ok (.iadd, 1) := by decide +kernel
theorem dX9_way_53 : decode cX9_way 53 = .ok (.iaload, 1) := by decide +kernel
theorem dX9_way_54 : decode cX9_way 54 = .ok (.ireturn, 1) := by decide +kernel
theorem dX9_fullness_0 : decode cX9_fullness 0 = .ok (.iconst 0, 1) := by decide +kernel
theorem dX9_fullness_1 : decode cX9_fullness 1 = .ok (.istore_n 2, 1) := by decide +kernel
theorem dX9_fullness_2 : decode cX9_fullness 2 = .ok (.iconst 0, 1) := by decide +kernel
theorem dX9_fullness_3 : decode cX9_fullness 3 = .ok (.istore_n 3, 1) := by decide +kernel
theorem dX9_fullness_4 : decode cX9_fullness 4 = .ok (.iload_n 3, 1) := by decide +kernel
theorem dX9_fullness_5 : decode cX9_fullness 5 = .ok (.aload_n 0, 1) := by decide +kernel
theorem dX9_fullness_6 : decode cX9_fullness 6 = .ok (.getfield 116, 3) := by decide +kernel
theorem dX9_fullness_9 : decode cX9_fullness 9 = .ok (.if_icmp .ge 31, 3) := by decide +kernel
theorem dX9_fullness_12 : decode cX9_fullness 12 = .ok (.iload_n 2, 1) := by decide +kernel
theorem dX9_fullness_13 : decode cX9_fullness 13 = .ok (.aload_n 0, 1) := by decide +kernel
theorem dX9_fullness_14 : decode cX9_fullness 14 = .ok (.getfield 19, 3) := by decide +kernel
theorem dX9_fullness_17 : decode cX9_fullness 17 = .ok (.bipush 32, 2) := by decide +kernel
theorem dX9_fullness_19 : decode cX9_fullness 19 = .ok (.iload_n 1, 1) := by decide +kernel
theorem dX9_fullness_20 : decode cX9_fullness 20 = .ok (.imul, 1) := by decide +kernel
theorem dX9_fullness_21 : decode cX9_fullness 21 = .ok (.iload_n 3, 1) := by decide +kernel
theorem dX9_fullness_22 : decode cX9_fullness 22 = .ok (.iadd, 1) := by decide +kernel
theorem dX9_fullness_23 : decode cX9_fullness 23 = .ok (.baload, 1) := by decide +kernel
theorem dX9_fullness_24 : decode cX9_fullness 24 = .ok (.ifCond .eq 7, 3) := by decide +kernel
theorem dX9_fullness_27 : decode cX9_fullness 27 = .ok (.iconst 1, 1) := by decide +kernel
theorem dX9_fullness_28 : decode cX9_fullness 28 = .ok (.goto 4, 3) := by decide +kernel
theorem dX9_fullness_31 : decode cX9_fullness 31 = .ok (.iconst 0, 1) := by decide +kernel
theorem dX9_fullness_32 : decode cX9_fullness 32 = .ok (.iadd, 1) := by decide +kernel
theorem dX9_fullness_33 : decode cX9_fullness 33 = .ok (.istore_n 2, 1) := by decide +kernel
theorem dX9_fullness_34 : decode cX9_fullness 34 = .ok (.iinc 3 1, 3) := by decide +kernel
theorem dX9_fullness_37 : decode cX9_fullness 37 = .ok (.goto (-33), 3) := by decide +kernel
theorem dX9_fullness_40 : decode cX9_fullness 40 = .ok (.iload_n 2, 1) := by decide +kernel
theorem dX9_fullness_41 : decode cX9_fullness 41 = .ok (.ireturn, 1) := by decide +kernel
theorem dX9_roads_0 : decode cX9_roads 0 = .ok (.iconst 0, 1) := by decide +kernel
theorem dX9_roads_1 : decode cX9_roads 1 = .ok (.istore_n 1, 1) := by decide +kernel
theorem dX9_roads_2 : decode cX9_roads 2 = .ok (.iconst 0, 1) := by decide +kernel
theorem dX9_roads_3 : decode cX9_roads 3 = .ok (.istore_n 2, 1) := by decide +kernel
theorem dX9_roads_4 : decode cX9_roads 4 = .ok (.iload_n 2, 1) := by decide +kernel
theorem dX9_roads_5 : decode cX9_roads 5 = .ok (.aload_n 0, 1) := by decide +kernel
theorem dX9_roads_6 : decode cX9_roads 6 = .ok (.getfield 116, 3) := by decide +kernel
theorem dX9_roads_9 : decode cX9_roads 9 = .ok (.if_icmp .ge 17, 3) := by decide +kernel
theorem dX9_roads_12 : decode cX9_roads 12 = .ok (.iload_n 1, 1) := by decide +kernel
theorem dX9_roads_13 : decode cX9_roads 13 = .ok (.aload_n 0, 1) := by decide +kernel
theorem dX9_roads_14 : decode cX9_roads 14 = .ok (.iload_n 2, 1) := by decide +kernel
theorem dX9_roads_15 : decode cX9_roads 15 = .ok (.invokevirtual 189, 3) := by decide +kernel
theorem dX9_roads_18 : decode cX9_roads 18 = .ok (.iadd, 1) := by decide +kernel
theorem dX9_roads_19 : decode cX9_roads 19 = .ok (.istore_n 1, 1) := by decide +kernel
theorem dX9_roads_20 : decode cX9_roads 20 = .ok (.iinc 2 1, 3) := by decide +kernel
theorem dX9_roads_23 : decode cX9_roads 23 = .ok (.goto (-19), 3) := by decide +kernel
theorem dX9_roads_26 : decode cX9_roads 26 = .ok (.iload_n 1, 1) := by decide +kernel
theorem dX9_roads_27 : decode cX9_roads 27 = .ok (.iconst 2, 1) := by decide +kernel
theorem dX9_roads_28 : decode cX9_roads 28 = .ok (.idiv, 1) := by decide +kernel
theorem dX9_roads_29 : decode cX9_roads 29 = .ok (.ireturn, 1) := by decide +kernel
theorem dX9_wayRound_0 : decode cX9_wayRound 0 = .ok (.iconst 0, 1) := by decide +kernel
theorem dX9_wayRound_1 : decode cX9_wayRound 1 = .ok (.istore_n 3, 1) := by decide +kernel
theorem dX9_wayRound_2 : decode cX9_wayRound 2 = .ok (.iload_n 3, 1) := by decide +kernel
theorem dX9_wayRound_3 : decode cX9_wayRound 3 = .ok (.aload_n 0, 1) := by decide +kernel
theorem dX9_wayRound_4 : decode cX9_wayRound 4 = .ok (.getfield 116, 3) := by decide +kernel
theorem dX9_wayRound_7 : decode cX9_wayRound 7 = .ok (.if_icmp .ge 26, 3) := by decide +kernel
theorem dX9_wayRound_10 : decode cX9_wayRound 10 = .ok (.aload_n 0, 1) := by decide +kernel
theorem dX9_wayRound_11 : decode cX9_wayRound 11 = .ok (.getfield 42, 3) := by decide +kernel
theorem dX9_wayRound_14 : decode cX9_wayRound 14 = .ok (.iload_n 3, 1) := by decide +kernel
theorem dX9_wayRound_15 : decode cX9_wayRound 15 = .ok (.iload_n 3, 1) := by decide +kernel
theorem dX9_wayRound_16 : decode cX9_wayRound 16 = .ok (.iload_n 1, 1) := by decide +kernel
theorem dX9_wayRound_17 : decode cX9_wayRound 17 = .ok (.if_icmp .ne 7, 3) := by decide +kernel
theorem dX9_wayRound_20 : decode cX9_wayRound 20 = .ok (.iconst 0, 1) := by decide +kernel
theorem dX9_wayRound_21 : decode cX9_wayRound 21 = .ok (.goto 5, 3) := by decide +kernel
theorem dX9_wayRound_24 : decode cX9_wayRound 24 = .ok (.bipush 99, 2) := by decide +kernel
theorem dX9_wayRound_26 : decode cX9_wayRound 26 = .ok (.iastore, 1) := by decide +kernel
theorem dX9_wayRound_27 : decode cX9_wayRound 27 = .ok (.iinc 3 1, 3) := by decide +kernel
theorem dX9_wayRound_30 : decode cX9_wayRound 30 = .ok (.goto (-28), 3) := by decide +kernel
theorem dX9_wayRound_33 : decode cX9_wayRound 33 = .ok (.iconst 0, 1) := by decide +kernel
theorem dX9_wayRound_34 : decode cX9_wayRound 34 = .ok (.istore_n 3, 1) := by decide +kernel
theorem dX9_wayRound_35 : decode cX9_wayRound 35 = .ok (.iload_n 3, 1) := by decide +kernel
theorem dX9_wayRound_36 : decode cX9_wayRound 36 = .ok (.aload_n 0, 1) := by decide +kernel
theorem dX9_wayRound_37 : decode cX9_wayRound 37 = .ok (.getfield 116, 3) := by decide +kernel
theorem dX9_wayRound_40 : decode cX9_wayRound 40 = .ok (.if_icmp .ge 128, 3) := by decide +kernel
theorem dX9_wayRound_43 : decode cX9_wayRound 43 = .ok (.iconst 0, 1) := by decide +kernel
theorem dX9_wayRound_44 : decode cX9_wayRound 44 = .ok (.istore 4, 2) := by decide +kernel
theorem dX9_wayRound_46 : decode cX9_wayRound 46 = .ok (.iload 4, 2) := by decide +kernel
theorem dX9_wayRound_48 : decode cX9_wayRound 48 = .ok (.aload_n 0, 1) := by decide +kernel
theorem dX9_wayRound_49 : decode cX9_wayRound 49 = .ok (.getfield 116, 3) := by decide +kernel
theorem dX9_wayRound_52 : decode cX9_wayRound 52 = .ok (.if_icmp .ge 110, 3) := by decide +kernel
theorem dX9_wayRound_55 : decode cX9_wayRound 55 = .ok (.iconst 0, 1) := by decide +kernel
theorem dX9_wayRound_56 : decode cX9_wayRound 56 = .ok (.istore 5, 2) := by decide +kernel
theorem dX9_wayRound_58 : decode cX9_wayRound 58 = .ok (.iload 5, 2) := by decide +kernel
theorem dX9_wayRound_60 : decode cX9_wayRound 60 = .ok (.aload_n 0, 1) := by decide +kernel
theorem dX9_wayRound_61 : decode cX9_wayRound 61 = .ok (.getfield 116, 3) := by decide +kernel
theorem dX9_wayRound_64 : decode cX9_wayRound 64 = .ok (.if_icmp .ge 92, 3) := by decide +kernel
theorem dX9_wayRound_67 : decode cX9_wayRound 67 = .ok (.aload_n 0, 1) := by decide +kernel
theorem dX9_wayRound_68 : decode cX9_wayRound 68 = .ok (.getfield 42, 3) := by decide +kernel
theorem dX9_wayRound_71 : decode cX9_wayRound 71 = .ok (.iload 4, 2) := by decide +kernel
theorem dX9_wayRound_73 : decode cX9_wayRound 73 = .ok (.iaload, 1) := by decide +kernel
theorem dX9_wayRound_74 : decode cX9_wayRound 74 = .ok (.iload_n 3, 1) := by decide +kernel
theorem dX9_wayRound_75 : decode cX9_wayRound 75 = .ok (.if_icmp .ne 81, 3) := by decide +kernel
theorem dX9_wayRound_78 : decode cX9_wayRound 78 = .ok (.aload_n 0, 1) := by decide +kernel
theorem dX9_wayRound_79 : decode cX9_wayRound 79 = .ok (.getfield 19, 3) := by decide +kernel
theorem dX9_wayRound_82 : decode cX9_wayRound 82 = .ok (.bipush 32, 2) := by decide +kernel
theorem dX9_wayRound_84 : decode cX9_wayRound 84 = .ok (.iload 4, 2) := by decide +kernel
theorem dX9_wayRound_86 : decode cX9_wayRound 86 = .ok (.imul, 1) := by decide +kernel
theorem dX9_wayRound_87 : decode cX9_wayRound 87 = .ok (.iload 5, 2) := by decide +kernel
theorem dX9_wayRound_89 : decode cX9_wayRound 89 = .ok (.iadd, 1) := by decide +kernel
theorem dX9_wayRound_90 : decode cX9_wayRound 90 = .ok (.baload, 1) := by decide +kernel
theorem dX9_wayRound_91 : decode cX9_wayRound 91 = .ok (.ifCond .eq 19, 3) := by decide +kernel
theorem dX9_wayRound_94 : decode cX9_wayRound 94 = .ok (.iload 4, 2) := by decide +kernel
theorem dX9_wayRound_96 : decode cX9_wayRound 96 = .ok (.iload_n 1, 1) := by decide +kernel
theorem dX9_wayRound_97 : decode cX9_wayRound 97 = .ok (.if_icmp .ne 9, 3) := by decide +kernel
theorem dX9_wayRound_100 : decode cX9_wayRound 100 = .ok (.iload 5, 2) := by decide +kernel
theorem dX9_wayRound_102 : decode cX9_wayRound 102 = .ok (.iload_n 2, 1) := by decide +kernel
theorem dX9_wayRound_103 : decode cX9_wayRound 103 = .ok (.if_icmp .eq 7, 3) := by decide +kernel
theorem dX9_wayRound_106 : decode cX9_wayRound 106 = .ok (.iconst 1, 1) := by decide +kernel
theorem dX9_wayRound_107 : decode cX9_wayRound 107 = .ok (.goto 4, 3) := by decide +kernel
theorem dX9_wayRound_110 : decode cX9_wayRound 110 = .ok (.iconst 0, 1) := by decide +kernel
theorem dX9_wayRound_111 : decode cX9_wayRound 111 = .ok (.istore 6, 2) := by decide +kernel
theorem dX9_wayRound_113 : decode cX9_wayRound 113 = .ok (.aload_n 0, 1) := by decide +kernel
theorem dX9_wayRound_114 : decode cX9_wayRound 114 = .ok (.getfield 42, 3) := by decide +kernel
theorem dX9_wayRound_117 : decode cX9_wayRound 117 = .ok (.iload 5, 2) := by decide +kernel
theorem dX9_wayRound_119 : decode cX9_wayRound 119 = .ok (.iload 6, 2) := by decide +kernel
theorem dX9_wayRound_121 : decode cX9_wayRound 121 = .ok (.ifCond .eq 21, 3) := by decide +kernel
theorem dX9_wayRound_124 : decode cX9_wayRound 124 = .ok (.aload_n 0, 1) := by decide +kernel
theorem dX9_wayRound_125 : decode cX9_wayRound 125 = .ok (.getfield 42, 3) := by decide +kernel
theorem dX9_wayRound_128 : decode cX9_wayRound 128 = .ok (.iload 5, 2) := by decide +kernel
theorem dX9_wayRound_130 : decode cX9_wayRound 130 = .ok (.iaload, 1) := by decide +kernel
theorem dX9_wayRound_131 : decode cX9_wayRound 131 = .ok (.bipush 99, 2) := by decide +kernel
theorem dX9_wayRound_133 : decode cX9_wayRound 133 = .ok (.if_icmp .ne 9, 3) := by decide +kernel
theorem dX9_wayRound_136 : decode cX9_wayRound 136 = .ok (.iload_n 3, 1) := by decide +kernel
theorem dX9_wayRound_137 : decode cX9_wayRound 137 = .ok (.iconst 1, 1) := by decide +kernel
theorem dX9_wayRound_138 : decode cX9_wayRound 138 = .ok (.iadd, 1) := by decide +kernel
theorem dX9_wayRound_139 : decode cX9_wayRound 139 = .ok (.goto 10, 3) := by decide +kernel
theorem dX9_wayRound_142 : decode cX9_wayRound 142 = .ok (.aload_n 0, 1) := by decide +kernel
theorem dX9_wayRound_143 : decode cX9_wayRound 143 = .ok (.getfield 42, 3) := by decide +kernel
theorem dX9_wayRound_146 : decode cX9_wayRound 146 = .ok (.iload 5, 2) := by decide +kernel
theorem dX9_wayRound_148 : decode cX9_wayRound 148 = .ok (.iaload, 1) := by decide +kernel
theorem dX9_wayRound_149 : decode cX9_wayRound 149 = .ok (.iastore, 1) := by decide +kernel
theorem dX9_wayRound_150 : decode cX9_wayRound 150 = .ok (.iinc 5 1, 3) := by decide +kernel
theorem dX9_wayRound_153 : decode cX9_wayRound 153 = .ok (.goto (-95), 3) := by decide +kernel
theorem dX9_wayRound_156 : decode cX9_wayRound 156 = .ok (.iinc 4 1, 3) := by decide +kernel
theorem dX9_wayRound_159 : decode cX9_wayRound 159 = .ok (.goto (-113), 3) := by decide +kernel
theorem dX9_wayRound_162 : decode cX9_wayRound 162 = .ok (.iinc 3 1, 3) := by decide +kernel
theorem dX9_wayRound_165 : decode cX9_wayRound 165 = .ok (.goto (-130), 3) := by decide +kernel
theorem dX9_wayRound_168 : decode cX9_wayRound 168 = .ok (.aload_n 0, 1) := by decide +kernel
theorem dX9_wayRound_169 : decode cX9_wayRound 169 = .ok (.getfield 42, 3) := by decide +kernel
theorem dX9_wayRound_172 : decode cX9_wayRound 172 = .ok (.iload_n 2, 1) := by decide +kernel
theorem dX9_wayRound_173 : decode cX9_wayRound 173 = .ok (.iaload, 1) := by decide +kernel
theorem dX9_wayRound_174 : decode cX9_wayRound 174 = .ok (.ireturn, 1) := by decide +kernel
theorem dX9_round_0 : decode cX9_round 0 = .ok (.bipush 99, 2) := by decide +kernel
theorem dX9_round_2 : decode cX9_round 2 = .ok (.istore_n 1, 1) := by decide +kernel
theorem dX9_round_3 : decode cX9_round 3 = .ok (.iconst 0, 1) := by decide +kernel
theorem dX9_round_4 : decode cX9_round 4 = .ok (.istore_n 2, 1) := by decide +kernel
theorem dX9_round_5 : decode cX9_round 5 = .ok (.iload_n 2, 1) := by decide +kernel
theorem dX9_round_6 : decode cX9_round 6 = .ok (.aload_n 0, 1) := by decide +kernel
theorem dX9_round_7 : decode cX9_round 7 = .ok (.getfield 116, 3) := by decide +kernel
theorem dX9_round_10 : decode cX9_round 10 = .ok (.if_icmp .ge 61, 3) := by decide +kernel
theorem dX9_round_13 : decode cX9_round 13 = .ok (.iconst 0, 1) := by decide +kernel
theorem dX9_round_14 : decode cX9_round 14 = .ok (.istore_n 3, 1) := by decide +kernel
theorem dX9_round_15 : decode cX9_round 15 = .ok (.iload_n 3, 1) := by decide +kernel
theorem dX9_round_16 : decode cX9_round 16 = .ok (.iload_n 2, 1) := by decide +kernel
theorem dX9_round_17 : decode cX9_round 17 = .ok (.if_icmp .ge 48, 3) := by decide +kernel
theorem dX9_round_20 : decode cX9_round 20 = .ok (.aload_n 0, 1) := by decide +kernel
theorem dX9_round_21 : decode cX9_round 21 = .ok (.getfield 19, 3) := by decide +kernel
theorem dX9_round_24 : decode cX9_round 24 = .ok (.bipush 32, 2) := by decide +kernel
theorem dX9_round_26 : decode cX9_round 26 = .ok (.iload_n 2, 1) := by decide +kernel
theorem dX9_round_27 : decode cX9_round 27 = .ok (.imul, 1) := by decide +kernel
theorem dX9_round_28 : decode cX9_round 28 = .ok (.iload_n 3, 1) := by decide +kernel
theorem dX9_round_29 : decode cX9_round 29 = .ok (.iadd, 1) := by decide +kernel
theorem dX9_round_30 : decode cX9_round 30 = .ok (.baload, 1) := by decide +kernel
theorem dX9_round_31 : decode cX9_round 31 = .ok (.ifCond .eq 28, 3) := by decide +kernel
theorem dX9_round_34 : decode cX9_round 34 = .ok (.aload_n 0, 1) := by decide +kernel
theorem dX9_round_35 : decode cX9_round 35 = .ok (.iload_n 2, 1) := by decide +kernel
theorem dX9_round_36 : decode cX9_round 36 = .ok (.iload_n 3, 1) := by decide +kernel
theorem dX9_round_37 : decode cX9_round 37 = .ok (.invokevirtual 192, 3) := by decide +kernel
theorem dX9_round_40 : decode cX9_round 40 = .ok (.istore 4, 2) := by decide +kernel
theorem dX9_round_42 : decode cX9_round 42 = .ok (.iload 4, 2) := by decide +kernel
theorem dX9_round_44 : decode cX9_round 44 = .ok (.iconst 1, 1) := by decide +kernel
theorem dX9_round_45 : decode cX9_round 45 = .ok (.iadd, 1) := by decide +kernel
theorem dX9_round_46 : decode cX9_round 46 = .ok (.iload_n 1, 1) := by decide +kernel
theorem dX9_round_47 : decode cX9_round 47 = .ok (.if_icmp .ge 10, 3) := by decide +kernel
theorem dX9_round_50 : decode cX9_round 50 = .ok (.iload 4, 2) := by decide +kernel
theorem dX9_round_52 : decode cX9_round 52 = .ok (.iconst 1, 1) := by decide +kernel
theorem dX9_round_53 : decode cX9_round 53 = .ok (.iadd, 1) := by decide +kernel
theorem dX9_round_54 : decode cX9_round 54 = .ok (.goto 4, 3) := by decide +kernel
theorem dX9_round_57 : decode cX9_round 57 = .ok (.iload_n 1, 1) := by decide +kernel
theorem dX9_round_58 : decode cX9_round 58 = .ok (.istore_n 1, 1) := by decide +kernel
theorem dX9_round_59 : decode cX9_round 59 = .ok (.iinc 3 1, 3) := by decide +kernel
theorem dX9_round_62 : decode cX9_round 62 = .ok (.goto (-47), 3) := by decide +kernel
theorem dX9_round_65 : decode cX9_round 65 = .ok (.iinc 2 1, 3) := by decide +kernel
theorem dX9_round_68 : decode cX9_round 68 = .ok (.goto (-63), 3) := by decide +kernel
theorem dX9_round_71 : decode cX9_round 71 = .ok (.iload_n 1, 1) := by decide +kernel
theorem dX9_round_72 : decode cX9_round 72 = .ok (.bipush 99, 2) := by decide +kernel
theorem dX9_round_74 : decode cX9_round 74 = .ok (.if_icmp .ne 7, 3) := by decide +kernel
theorem dX9_round_77 : decode cX9_round 77 = .ok (.iconst 0, 1) := by decide +kernel
theorem dX9_round_78 : decode cX9_round 78 = .ok (.goto 4, 3) := by decide +kernel
theorem dX9_round_81 : decode cX9_round 81 = .ok (.iload_n 1, 1) := by decide +kernel
theorem dX9_round_82 : decode cX9_round 82 = .ok (.ireturn, 1) := by decide +kernel
theorem dX9_isEven_0 : decode cX9_isEven 0 = .ok (.iconst 1, 1) := by decide +kernel
theorem dX9_isEven_1 : decode cX9_isEven 1 = .ok (.istore_n 1, 1) := by decide +kernel
theorem dX9_isEven_2 : decode cX9_isEven 2 = .ok (.iconst 1, 1) := by decide +kernel
theorem dX9_isEven_3 : decode cX9_isEven 3 = .ok (.istore_n 2, 1) := by decide +kernel
theorem dX9_isEven_4 : decode cX9_isEven 4 = .ok (.iload_n 2, 1) := by decide +kernel
theorem dX9_isEven_5 : decode cX9_isEven 5 = .ok (.aload_n 0, 1) := by decide +kernel
theorem dX9_isEven_6 : decode cX9_isEven 6 = .ok (.getfield 116, 3) := by decide +kernel
theorem dX9_isEven_9 : decode cX9_isEven 9 = .ok (.if_icmp .ge 32, 3) := by decide +kernel
theorem dX9_isEven_12 : decode cX9_isEven 12 = .ok (.iload_n 1, 1) := by decide +kernel
theorem dX9_isEven_13 : decode cX9_isEven 13 = .ok (.ifCond .eq 20, 3) := by decide +kernel
theorem dX9_isEven_16 : decode cX9_isEven 16 = .ok (.aload_n 0, 1) := by decide +kernel
theorem dX9_isEven_17 : decode cX9_isEven 17 = .ok (.iload_n 2, 1) := by decide +kernel
theorem dX9_isEven_18 : decode cX9_isEven 18 = .ok (.invokevirtual 189, 3) := by decide +kernel
theorem dX9_isEven_21 : decode cX9_isEven 21 = .ok (.aload_n 0, 1) := by decide +kernel
theorem dX9_isEven_22 : decode cX9_isEven 22 = .ok (.iconst 0, 1) := by decide +kernel
theorem dX9_isEven_23 : decode cX9_isEven 23 = .ok (.invokevirtual 189, 3) := by decide +kernel
theorem dX9_isEven_26 : decode cX9_isEven 26 = .ok (.if_icmp .ne 7, 3) := by decide +kernel
theorem dX9_isEven_29 : decode cX9_isEven 29 = .ok (.iconst 1, 1) := by decide +kernel
theorem dX9_isEven_30 : decode cX9_isEven 30 = .ok (.goto 4, 3) := by decide +kernel
theorem dX9_isEven_33 : decode cX9_isEven 33 = .ok (.iconst 0, 1) := by decide +kernel
theorem dX9_isEven_34 : decode cX9_isEven 34 = .ok (.istore_n 1, 1) := by decide +kernel
theorem dX9_isEven_35 : decode cX9_isEven 35 = .ok (.iinc 2 1, 3) := by decide +kernel
theorem dX9_isEven_38 : decode cX9_isEven 38 = .ok (.goto (-34), 3) := by decide +kernel
theorem dX9_isEven_41 : decode cX9_isEven 41 = .ok (.iload_n 1, 1) := by decide +kernel
theorem dX9_isEven_42 : decode cX9_isEven 42 = .ok (.ireturn, 1) := by decide +kernel
theorem dX9_isOfSides_0 : decode cX9_isOfSides 0 = .ok (.aload_n 0, 1) := by decide +kernel
theorem dX9_isOfSides_1 : decode cX9_isOfSides 1 = .ok (.invokevirtual 186, 3) := by decide +kernel
theorem dX9_isOfSides_4 : decode cX9_isOfSides 4 = .ok (.iconst 1, 1) := by decide +kernel
theorem dX9_isOfSides_5 : decode cX9_isOfSides 5 = .ok (.istore_n 1, 1) := by decide +kernel
theorem dX9_isOfSides_6 : decode cX9_isOfSides 6 = .ok (.iconst 0, 1) := by decide +kernel
theorem dX9_isOfSides_7 : decode cX9_isOfSides 7 = .ok (.istore_n 2, 1) := by decide +kernel
theorem dX9_isOfSides_8 : decode cX9_isOfSides 8 = .ok (.iload_n 2, 1) := by decide +kernel
theorem dX9_isOfSides_9 : decode cX9_isOfSides 9 = .ok (.aload_n 0, 1) := by decide +kernel
theorem dX9_isOfSides_10 : decode cX9_isOfSides 10 = .ok (.getfield 116, 3) := by decide +kernel
theorem dX9_isOfSides_13 : decode cX9_isOfSides 13 = .ok (.if_icmp .ge 109, 3) := by decide +kernel
theorem dX9_isOfSides_16 : decode cX9_isOfSides 16 = .ok (.iconst 0, 1) := by decide +kernel
theorem dX9_isOfSides_17 : decode cX9_isOfSides 17 = .ok (.istore_n 3, 1) := by decide +kernel
theorem dX9_isOfSides_18 : decode cX9_isOfSides 18 = .ok (.iload_n 3, 1) := by decide +kernel
theorem dX9_isOfSides_19 : decode cX9_isOfSides 19 = .ok (.aload_n 0, 1) := by decide +kernel
theorem dX9_isOfSides_20 : decode cX9_isOfSides 20 = .ok (.getfield 116, 3) := by decide +kernel
theorem dX9_isOfSides_23 : decode cX9_isOfSides 23 = .ok (.if_icmp .ge 93, 3) := by decide +kernel
theorem dX9_isOfSides_26 : decode cX9_isOfSides 26 = .ok (.iconst 0, 1) := by decide +kernel
theorem dX9_isOfSides_27 : decode cX9_isOfSides 27 = .ok (.istore 4, 2) := by decide +kernel
theorem dX9_isOfSides_29 : decode cX9_isOfSides 29 = .ok (.iload 4, 2) := by decide +kernel
theorem dX9_isOfSides_31 : decode cX9_isOfSides 31 = .ok (.aload_n 0, 1) := by decide +kernel
theorem dX9_isOfSides_32 : decode cX9_isOfSides 32 = .ok (.getfield 116, 3) := by decide +kernel
theorem dX9_isOfSides_35 : decode cX9_isOfSides 35 = .ok (.if_icmp .ge 75, 3) := by decide +kernel
theorem dX9_isOfSides_38 : decode cX9_isOfSides 38 = .ok (.aload_n 0, 1) := by decide +kernel
theorem dX9_isOfSides_39 : decode cX9_isOfSides 39 = .ok (.getfield 19, 3) := by decide +kernel
theorem dX9_isOfSides_42 : decode cX9_isOfSides 42 = .ok (.bipush 32, 2) := by decide +kernel
theorem dX9_isOfSides_44 : decode cX9_isOfSides 44 = .ok (.iload_n 2, 1) := by decide +kernel
theorem dX9_isOfSides_45 : decode cX9_isOfSides 45 = .ok (.imul, 1) := by decide +kernel
theorem dX9_isOfSides_46 : decode cX9_isOfSides 46 = .ok (.iload_n 3, 1) := by decide +kernel
theorem dX9_isOfSides_47 : decode cX9_isOfSides 47 = .ok (.iadd, 1) := by decide +kernel
theorem dX9_isOfSides_48 : decode cX9_isOfSides 48 = .ok (.baload, 1) := by decide +kernel
theorem dX9_isOfSides_49 : decode cX9_isOfSides 49 = .ok (.ifCond .eq 61, 3) := by decide +kernel
theorem dX9_isOfSides_52 : decode cX9_isOfSides 52 = .ok (.aload_n 0, 1) := by decide +kernel
theorem dX9_isOfSides_53 : decode cX9_isOfSides 53 = .ok (.getfield 39, 3) := by decide +kernel
theorem dX9_isOfSides_56 : decode cX9_isOfSides 56 = .ok (.bipush 32, 2) := by decide +kernel
theorem dX9_isOfSides_58 : decode cX9_isOfSides 58 = .ok (.iload 4, 2) := by decide +kernel
theorem dX9_isOfSides_60 : decode cX9_isOfSides 60 = .ok (.imul, 1) := by decide +kernel
theorem dX9_isOfSides_61 : decode cX9_isOfSides 61 = .ok (.iload_n 2, 1) := by decide +kernel
theorem dX9_isOfSides_62 : decode cX9_isOfSides 62 = .ok (.iadd, 1) := by decide +kernel
theorem dX9_isOfSides_63 : decode cX9_isOfSides 63 = .ok (.iaload, 1) := by decide +kernel
theorem dX9_isOfSides_64 : decode cX9_isOfSides 64 = .ok (.istore 5, 2) := by decide +kernel
theorem dX9_isOfSides_66 : decode cX9_isOfSides 66 = .ok (.iload_n 1, 1) := by decide +kernel
theorem dX9_isOfSides_67 : decode cX9_isOfSides 67 = .ok (.ifCond .eq 35, 3) := by decide +kernel
theorem dX9_isOfSides_70 : decode cX9_isOfSides 70 = .ok (.iload 5, 2) := by decide +kernel
theorem dX9_isOfSides_72 : decode cX9_isOfSides 72 = .ok (.bipush 99, 2) := by decide +kernel
theorem dX9_isOfSides_74 : decode cX9_isOfSides 74 = .ok (.if_icmp .eq 24, 3) := by decide +kernel
theorem dX9_isOfSides_77 : decode cX9_isOfSides 77 = .ok (.iload 5, 2) := by decide +kernel
theorem dX9_isOfSides_79 : decode cX9_isOfSides 79 = .ok (.iconst 2, 1) := by decide +kernel
theorem dX9_isOfSides_80 : decode cX9_isOfSides 80 = .ok (.irem, 1) := by decide +kernel
theorem dX9_isOfSides_81 : decode cX9_isOfSides 81 = .ok (.aload_n 0, 1) := by decide +kernel
theorem dX9_isOfSides_82 : decode cX9_isOfSides 82 = .ok (.getfield 39, 3) := by decide +kernel
theorem dX9_isOfSides_85 : decode cX9_isOfSides 85 = .ok (.bipush 32, 2) := by decide +kernel
theorem dX9_isOfSides_87 : decode cX9_isOfSides 87 = .ok (.iload 4, 2) := by decide +kernel
theorem dX9_isOfSides_89 : decode cX9_isOfSides 89 = .ok (.imul, 1) := by decide +kernel
theorem dX9_isOfSides_90 : decode cX9_isOfSides 90 = .ok (.iload_n 3, 1) := by decide +kernel
theorem dX9_isOfSides_91 : decode cX9_isOfSides 91 = .ok (.iadd, 1) := by decide +kernel
theorem dX9_isOfSides_92 : decode cX9_isOfSides 92 = .ok (.iaload, 1) := by decide +kernel
theorem dX9_isOfSides_93 : decode cX9_isOfSides 93 = .ok (.iconst 2, 1) := by decide +kernel
theorem dX9_isOfSides_94 : decode cX9_isOfSides 94 = .ok (.irem, 1) := by decide +kernel
theorem dX9_isOfSides_95 : decode cX9_isOfSides 95 = .ok (.if_icmp .eq 7, 3) := by decide +kernel
theorem dX9_isOfSides_98 : decode cX9_isOfSides 98 = .ok (.iconst 1, 1) := by decide +kernel
theorem dX9_isOfSides_99 : decode cX9_isOfSides 99 = .ok (.goto 4, 3) := by decide +kernel
theorem dX9_isOfSides_102 : decode cX9_isOfSides 102 = .ok (.iconst 0, 1) := by decide +kernel
theorem dX9_isOfSides_103 : decode cX9_isOfSides 103 = .ok (.istore_n 1, 1) := by decide +kernel
theorem dX9_isOfSides_104 : decode cX9_isOfSides 104 = .ok (.iinc 4 1, 3) := by decide +kernel
theorem dX9_isOfSides_107 : decode cX9_isOfSides 107 = .ok (.goto (-78), 3) := by decide +kernel
theorem dX9_isOfSides_110 : decode cX9_isOfSides 110 = .ok (.iinc 3 1, 3) := by decide +kernel
theorem dX9_isOfSides_113 : decode cX9_isOfSides 113 = .ok (.goto (-95), 3) := by decide +kernel
theorem dX9_isOfSides_116 : decode cX9_isOfSides 116 = .ok (.iinc 2 1, 3) := by decide +kernel
theorem dX9_isOfSides_119 : decode cX9_isOfSides 119 = .ok (.goto (-111), 3) := by decide +kernel
theorem dX9_isOfSides_122 : decode cX9_isOfSides 122 = .ok (.iload_n 1, 1) := by decide +kernel
theorem dX9_isOfSides_123 : decode cX9_isOfSides 123 = .ok (.ireturn, 1) := by decide +kernel
theorem dX9_isFar_0 : decode cX9_isFar 0 = .ok (.aload_n 0, 1) := by decide +kernel
theorem dX9_isFar_1 : decode cX9_isFar 1 = .ok (.getfield 39, 3) := by decide +kernel
theorem dX9_isFar_4 : decode cX9_isFar 4 = .ok (.bipush 32, 2) := by decide +kernel
theorem dX9_isFar_6 : decode cX9_isFar 6 = .ok (.iload_n 1, 1) := by decide +kernel
theorem dX9_isFar_7 : decode cX9_isFar 7 = .ok (.imul, 1) := by decide +kernel
theorem dX9_isFar_8 : decode cX9_isFar 8 = .ok (.iload_n 2, 1) := by decide +kernel
theorem dX9_isFar_9 : decode cX9_isFar 9 = .ok (.iadd, 1) := by decide +kernel
theorem dX9_isFar_10 : decode cX9_isFar 10 = .ok (.iaload, 1) := by decide +kernel
theorem dX9_isFar_11 : decode cX9_isFar 11 = .ok (.aload_n 0, 1) := by decide +kernel
theorem dX9_isFar_12 : decode cX9_isFar 12 = .ok (.getfield 177, 3) := by decide +kernel
theorem dX9_isFar_15 : decode cX9_isFar 15 = .ok (.if_icmp .ne 7, 3) := by decide +kernel
theorem dX9_isFar_18 : decode cX9_isFar 18 = .ok (.iconst 1, 1) := by decide +kernel
theorem dX9_isFar_19 : decode cX9_isFar 19 = .ok (.goto 4, 3) := by decide +kernel
theorem dX9_isFar_22 : decode cX9_isFar 22 = .ok (.iconst 0, 1) := by decide +kernel
theorem dX9_isFar_23 : decode cX9_isFar 23 = .ok (.ireturn, 1) := by decide +kernel
theorem dX9_isFolded_0 : decode cX9_isFolded 0 = .ok (.aload_n 0, 1) := by decide +kernel
theorem dX9_isFolded_1 : decode cX9_isFolded 1 = .ok (.invokevirtual 195, 3) := by decide +kernel
theorem dX9_isFolded_4 : decode cX9_isFolded 4 = .ok (.ifCond .eq 11, 3) := by decide +kernel
theorem dX9_isFolded_7 : decode cX9_isFolded 7 = .ok (.aload_n 0, 1) := by decide +kernel
theorem dX9_isFolded_8 : decode cX9_isFolded 8 = .ok (.getfield 177, 3) := by decide +kernel
theorem dX9_isFolded_11 : decode cX9_isFolded 11 = .ok (.iconst 1, 1) := by decide +kernel
theorem dX9_isFolded_12 : decode cX9_isFolded 12 = .ok (.if_icmp .ge 5, 3) := by decide +kernel
theorem dX9_isFolded_15 : decode cX9_isFolded 15 = .ok (.iconst 0, 1) := by decide +kernel
theorem dX9_isFolded_16 : decode cX9_isFolded 16 = .ok (.ireturn, 1) := by decide +kernel
theorem dX9_isFolded_17 : decode cX9_isFolded 17 = .ok (.iconst 1, 1) := by decide +kernel
theorem dX9_isFolded_18 : decode cX9_isFolded 18 = .ok (.istore_n 1, 1) := by decide +kernel
theorem dX9_isFolded_19 : decode cX9_isFolded 19 = .ok (.iconst 0, 1) := by decide +kernel
theorem dX9_isFolded_20 : decode cX9_isFolded 20 = .ok (.istore_n 2, 1) := by decide +kernel
theorem dX9_isFolded_21 : decode cX9_isFolded 21 = .ok (.iload_n 2, 1) := by decide +kernel
theorem dX9_isFolded_22 : decode cX9_isFolded 22 = .ok (.aload_n 0, 1) := by decide +kernel
theorem dX9_isFolded_23 : decode cX9_isFolded 23 = .ok (.getfield 116, 3) := by decide +kernel
theorem dX9_isFolded_26 : decode cX9_isFolded 26 = .ok (.if_icmp .ge 88, 3) := by decide +kernel
theorem dX9_isFolded_29 : decode cX9_isFolded 29 = .ok (.iconst 0, 1) := by decide +kernel
theorem dX9_isFolded_30 : decode cX9_isFolded 30 = .ok (.istore_n 3, 1) := by decide +kernel
theorem dX9_isFolded_31 : decode cX9_isFolded 31 = .ok (.iload_n 3, 1) := by decide +kernel
theorem dX9_isFolded_32 : decode cX9_isFolded 32 = .ok (.aload_n 0, 1) := by decide +kernel
theorem dX9_isFolded_33 : decode cX9_isFolded 33 = .ok (.getfield 116, 3) := by decide +kernel
theorem dX9_isFolded_36 : decode cX9_isFolded 36 = .ok (.if_icmp .ge 72, 3) := by decide +kernel
theorem dX9_isFolded_39 : decode cX9_isFolded 39 = .ok (.iconst 0, 1) := by decide +kernel
theorem dX9_isFolded_40 : decode cX9_isFolded 40 = .ok (.istore 4, 2) := by decide +kernel
theorem dX9_isFolded_42 : decode cX9_isFolded 42 = .ok (.iload 4, 2) := by decide +kernel
theorem dX9_isFolded_44 : decode cX9_isFolded 44 = .ok (.aload_n 0, 1) := by decide +kernel
theorem dX9_isFolded_45 : decode cX9_isFolded 45 = .ok (.getfield 116, 3) := by decide +kernel
theorem dX9_isFolded_48 : decode cX9_isFolded 48 = .ok (.if_icmp .ge 54, 3) := by decide +kernel
theorem dX9_isFolded_51 : decode cX9_isFolded 51 = .ok (.aload_n 0, 1) := by decide +kernel
theorem dX9_isFolded_52 : decode cX9_isFolded 52 = .ok (.iload_n 2, 1) := by decide +kernel
theorem dX9_isFolded_53 : decode cX9_isFolded 53 = .ok (.iload_n 3, 1) := by decide +kernel
theorem dX9_isFolded_54 : decode cX9_isFolded 54 = .ok (.invokevirtual 199, 3) := by decide +kernel
theorem dX9_isFolded_57 : decode cX9_isFolded 57 = .ok (.ifCond .eq 45, 3) := by decide +kernel
theorem dX9_isFolded_60 : decode cX9_isFolded 60 = .ok (.iload_n 1, 1) := by decide +kernel
theorem dX9_isFolded_61 : decode cX9_isFolded 61 = .ok (.ifCond .eq 33, 3) := by decide +kernel
theorem dX9_isFolded_64 : decode cX9_isFolded 64 = .ok (.aload_n 0, 1) := by decide +kernel
theorem dX9_isFolded_65 : decode cX9_isFolded 65 = .ok (.iload_n 3, 1) := by decide +kernel
theorem dX9_isFolded_66 : decode cX9_isFolded 66 = .ok (.iload 4, 2) := by decide +kernel
theorem dX9_isFolded_68 : decode cX9_isFolded 68 = .ok (.invokevirtual 199, 3) := by decide +kernel
theorem dX9_isFolded_71 : decode cX9_isFolded 71 = .ok (.ifCond .eq 19, 3) := by decide +kernel
theorem dX9_isFolded_74 : decode cX9_isFolded 74 = .ok (.iload 4, 2) := by decide +kernel
theorem dX9_isFolded_76 : decode cX9_isFolded 76 = .ok (.iload_n 2, 1) := by decide +kernel
theorem dX9_isFolded_77 : decode cX9_isFolded 77 = .ok (.if_icmp .eq 13, 3) := by decide +kernel
theorem dX9_isFolded_80 : decode cX9_isFolded 80 = .ok (.aload_n 0, 1) := by decide +kernel
theorem dX9_isFolded_81 : decode cX9_isFolded 81 = .ok (.iload_n 2, 1) := by decide +kernel
theorem dX9_isFolded_82 : decode cX9_isFolded 82 = .ok (.iload 4, 2) := by decide +kernel
theorem dX9_isFolded_84 : decode cX9_isFolded 84 = .ok (.invokevirtual 199, 3) := by decide +kernel
theorem dX9_isFolded_87 : decode cX9_isFolded 87 = .ok (.ifCond .eq 7, 3) := by decide +kernel
theorem dX9_isFolded_90 : decode cX9_isFolded 90 = .ok (.iconst 1, 1) := by decide +kernel
theorem dX9_isFolded_91 : decode cX9_isFolded 91 = .ok (.goto 4, 3) := by decide +kernel
theorem dX9_isFolded_94 : decode cX9_isFolded 94 = .ok (.iconst 0, 1) := by decide +kernel
theorem dX9_isFolded_95 : decode cX9_isFolded 95 = .ok (.istore_n 1, 1) := by decide +kernel
theorem dX9_isFolded_96 : decode cX9_isFolded 96 = .ok (.iinc 4 1, 3) := by decide +kernel
theorem dX9_isFolded_99 : decode cX9_isFolded 99 = .ok (.goto (-57), 3) := by decide +kernel
theorem dX9_isFolded_102 : decode cX9_isFolded 102 = .ok (.iinc 3 1, 3) := by decide +kernel
theorem dX9_isFolded_105 : decode cX9_isFolded 105 = .ok (.goto (-74), 3) := by decide +kernel
theorem dX9_isFolded_108 : decode cX9_isFolded 108 = .ok (.iinc 2 1, 3) := by decide +kernel
theorem dX9_isFolded_111 : decode cX9_isFolded 111 = .ok (.goto (-90), 3) := by decide +kernel
theorem dX9_isFolded_114 : decode cX9_isFolded 114 = .ok (.iload_n 1, 1) := by decide +kernel
theorem dX9_isFolded_115 : decode cX9_isFolded 115 = .ok (.ireturn, 1) := by decide +kernel
theorem dX9_beside_0 : decode cX9_beside 0 = .ok (.iconst 0, 1) := by decide +kernel
theorem dX9_beside_1 : decode cX9_beside 1 = .ok (.istore 4, 2) := by decide +kernel
theorem dX9_beside_3 : decode cX9_beside 3 = .ok (.iconst 0, 1) := by decide +kernel
theorem dX9_beside_4 : decode cX9_beside 4 = .ok (.istore 5, 2) := by decide +kernel
theorem dX9_beside_6 : decode cX9_beside 6 = .ok (.iload 5, 2) := by decide +kernel
theorem dX9_beside_8 : decode cX9_beside 8 = .ok (.aload_n 0, 1) := by decide +kernel
theorem dX9_beside_9 : decode cX9_beside 9 = .ok (.getfield 116, 3) := by decide +kernel
theorem dX9_beside_12 : decode cX9_beside 12 = .ok (.if_icmp .ge 50, 3) := by decide +kernel
theorem dX9_beside_15 : decode cX9_beside 15 = .ok (.iload 4, 2) := by decide +kernel
theorem dX9_beside_17 : decode cX9_beside 17 = .ok (.aload_n 0, 1) := by decide +kernel
theorem dX9_beside_18 : decode cX9_beside 18 = .ok (.getfield 19, 3) := by decide +kernel
theorem dX9_beside_21 : decode cX9_beside 21 = .ok (.bipush 32, 2) := by decide +kernel
theorem dX9_beside_23 : decode cX9_beside 23 = .ok (.iload_n 2, 1) := by decide +kernel
theorem dX9_beside_24 : decode cX9_beside 24 = .ok (.imul, 1) := by decide +kernel
theorem dX9_beside_25 : decode cX9_beside 25 = .ok (.iload 5, 2) := by decide +kernel
theorem dX9_beside_27 : decode cX9_beside 27 = .ok (.iadd, 1) := by decide +kernel
theorem dX9_beside_28 : decode cX9_beside 28 = .ok (.baload, 1) := by decide +kernel
theorem dX9_beside_29 : decode cX9_beside 29 = .ok (.ifCond .eq 23, 3) := by decide +kernel
theorem dX9_beside_32 : decode cX9_beside 32 = .ok (.aload_n 0, 1) := by decide +kernel
theorem dX9_beside_33 : decode cX9_beside 33 = .ok (.getfield 39, 3) := by decide +kernel
theorem dX9_beside_36 : decode cX9_beside 36 = .ok (.bipush 32, 2) := by decide +kernel
theorem dX9_beside_38 : decode cX9_beside 38 = .ok (.iload_n 1, 1) := by decide +kernel
theorem dX9_beside_39 : decode cX9_beside 39 = .ok (.imul, 1) := by decide +kernel
theorem dX9_beside_40 : decode cX9_beside 40 = .ok (.iload 5, 2) := by decide +kernel
theorem dX9_beside_42 : decode cX9_beside 42 = .ok (.iadd, 1) := by decide +kernel
theorem dX9_beside_43 : decode cX9_beside 43 = .ok (.iaload, 1) := by decide +kernel
theorem dX9_beside_44 : decode cX9_beside 44 = .ok (.iload_n 3, 1) := by decide +kernel
theorem dX9_beside_45 : decode cX9_beside 45 = .ok (.if_icmp .ne 7, 3) := by decide +kernel
theorem dX9_beside_48 : decode cX9_beside 48 = .ok (.iconst 1, 1) := by decide +kernel
theorem dX9_beside_49 : decode cX9_beside 49 = .ok (.goto 4, 3) := by decide +kernel
theorem dX9_beside_52 : decode cX9_beside 52 = .ok (.iconst 0, 1) := by decide +kernel
theorem dX9_beside_53 : decode cX9_beside 53 = .ok (.iadd, 1) := by decide +kernel
theorem dX9_beside_54 : decode cX9_beside 54 = .ok (.istore 4, 2) := by decide +kernel
theorem dX9_beside_56 : decode cX9_beside 56 = .ok (.iinc 5 1, 3) := by decide +kernel
theorem dX9_beside_59 : decode cX9_beside 59 = .ok (.goto (-53), 3) := by decide +kernel
theorem dX9_beside_62 : decode cX9_beside 62 = .ok (.iload 4, 2) := by decide +kernel
theorem dX9_beside_64 : decode cX9_beside 64 = .ok (.ireturn, 1) := by decide +kernel
theorem dX9_isLike_0 : decode cX9_isLike 0 = .ok (.aload_n 0, 1) := by decide +kernel
theorem dX9_isLike_1 : decode cX9_isLike 1 = .ok (.invokevirtual 195, 3) := by decide +kernel
theorem dX9_isLike_4 : decode cX9_isLike 4 = .ok (.ifCond .ne 5, 3) := by decide +kernel
theorem dX9_isLike_7 : decode cX9_isLike 7 = .ok (.iconst 0, 1) := by decide +kernel
theorem dX9_isLike_8 : decode cX9_isLike 8 = .ok (.ireturn, 1) := by decide +kernel
theorem dX9_isLike_9 : decode cX9_isLike 9 = .ok (.iconst 0, 1) := by decide +kernel
theorem dX9_isLike_10 : decode cX9_isLike 10 = .ok (.istore_n 1, 1) := by decide +kernel
theorem dX9_isLike_11 : decode cX9_isLike 11 = .ok (.iload_n 1, 1) := by decide +kernel
theorem dX9_isLike_12 : decode cX9_isLike 12 = .ok (.bipush 33, 2) := by decide +kernel
theorem dX9_isLike_14 : decode cX9_isLike 14 = .ok (.if_icmp .ge 16, 3) := by decide +kernel
theorem dX9_isLike_17 : decode cX9_isLike 17 = .ok (.aload_n 0, 1) := by decide +kernel
theorem dX9_isLike_18 : decode cX9_isLike 18 = .ok (.getfield 54, 3) := by decide +kernel
theorem dX9_isLike_21 : decode cX9_isLike 21 = .ok (.iload_n 1, 1) := by decide +kernel
theorem dX9_isLike_22 : decode cX9_isLike 22 = .ok (.iconst 0, 1) := by decide +kernel
theorem dX9_isLike_23 : decode cX9_isLike 23 = .ok (.bastore, 1) := by decide +kernel
theorem dX9_isLike_24 : decode cX9_isLike 24 = .ok (.iinc 1 1, 3) := by decide +kernel
theorem dX9_isLike_27 : decode cX9_isLike 27 = .ok (.goto (-16), 3) := by decide +kernel
theorem dX9_isLike_30 : decode cX9_isLike 30 = .ok (.iconst 0, 1) := by decide +kernel
theorem dX9_isLike_31 : decode cX9_isLike 31 = .ok (.istore_n 1, 1) := by decide +kernel
theorem dX9_isLike_32 : decode cX9_isLike 32 = .ok (.iload_n 1, 1) := by decide +kernel
theorem dX9_isLike_33 : decode cX9_isLike 33 = .ok (.aload_n 0, 1) := by decide +kernel
theorem dX9_isLike_34 : decode cX9_isLike 34 = .ok (.getfield 116, 3) := by decide +kernel
theorem dX9_isLike_37 : decode cX9_isLike 37 = .ok (.if_icmp .ge 156, 3) := by decide +kernel
theorem dX9_isLike_40 : decode cX9_isLike 40 = .ok (.iconst 0, 1) := by decide +kernel
theorem dX9_isLike_41 : decode cX9_isLike 41 = .ok (.istore_n 2, 1) := by decide +kernel
theorem dX9_isLike_42 : decode cX9_isLike 42 = .ok (.iload_n 2, 1) := by decide +kernel
theorem dX9_isLike_43 : decode cX9_isLike 43 = .ok (.aload_n 0, 1) := by decide +kernel
theorem dX9_isLike_44 : decode cX9_isLike 44 = .ok (.getfield 116, 3) := by decide +kernel
theorem dX9_isLike_47 : decode cX9_isLike 47 = .ok (.if_icmp .ge 140, 3) := by decide +kernel
theorem dX9_isLike_50 : decode cX9_isLike 50 = .ok (.aload_n 0, 1) := by decide +kernel
theorem dX9_isLike_51 : decode cX9_isLike 51 = .ok (.getfield 39, 3) := by decide +kernel
theorem dX9_isLike_54 : decode cX9_isLike 54 = .ok (.bipush 32, 2) := by decide +kernel
theorem dX9_isLike_56 : decode cX9_isLike 56 = .ok (.iload_n 1, 1) := by decide +kernel
theorem dX9_isLike_57 : decode cX9_isLike 57 = .ok (.imul, 1) := by decide +kernel
theorem dX9_isLike_58 : decode cX9_isLike 58 = .ok (.iload_n 2, 1) := by decide +kernel
theorem dX9_isLike_59 : decode cX9_isLike 59 = .ok (.iadd, 1) := by decide +kernel
theorem dX9_isLike_60 : decode cX9_isLike 60 = .ok (.iaload, 1) := by decide +kernel
theorem dX9_isLike_61 : decode cX9_isLike 61 = .ok (.istore_n 3, 1) := by decide +kernel
theorem dX9_isLike_62 : decode cX9_isLike 62 = .ok (.aload_n 0, 1) := by decide +kernel
theorem dX9_isLike_63 : decode cX9_isLike 63 = .ok (.iload_n 1, 1) := by decide +kernel
theorem dX9_isLike_64 : decode cX9_isLike 64 = .ok (.iload_n 2, 1) := by decide +kernel
theorem dX9_isLike_65 : decode cX9_isLike 65 = .ok (.iload_n 3, 1) := by decide +kernel
theorem dX9_isLike_66 : decode cX9_isLike 66 = .ok (.iconst 1, 1) := by decide +kernel
theorem dX9_isLike_67 : decode cX9_isLike 67 = .ok (.isub, 1) := by decide +kernel
theorem dX9_isLike_68 : decode cX9_isLike 68 = .ok (.invokevirtual 203, 3) := by decide +kernel
theorem dX9_isLike_71 : decode cX9_isLike 71 = .ok (.istore 4, 2) := by decide +kernel
theorem dX9_isLike_73 : decode cX9_isLike 73 = .ok (.aload_n 0, 1) := by decide +kernel
theorem dX9_isLike_74 : decode cX9_isLike 74 = .ok (.iload_n 1, 1) := by decide +kernel
theorem dX9_isLike_75 : decode cX9_isLike 75 = .ok (.iload_n 2, 1) := by decide +kernel
theorem dX9_isLike_76 : decode cX9_isLike 76 = .ok (.iload_n 3, 1) := by decide +kernel
theorem dX9_isLike_77 : decode cX9_isLike 77 = .ok (.invokevirtual 203, 3) := by decide +kernel
theorem dX9_isLike_80 : decode cX9_isLike 80 = .ok (.istore 5, 2) := by decide +kernel
theorem dX9_isLike_82 : decode cX9_isLike 82 = .ok (.aload_n 0, 1) := by decide +kernel
theorem dX9_isLike_83 : decode cX9_isLike 83 = .ok (.iload_n 1, 1) := by decide +kernel
theorem dX9_isLike_84 : decode cX9_isLike 84 = .ok (.iload_n 2, 1) := by decide +kernel
theorem dX9_isLike_85 : decode cX9_isLike 85 = .ok (.iload_n 3, 1) := by decide +kernel
theorem dX9_isLike_86 : decode cX9_isLike 86 = .ok (.iconst 1, 1) := by decide +kernel
theorem dX9_isLike_87 : decode cX9_isLike 87 = .ok (.iadd, 1) := by decide +kernel
theorem dX9_isLike_88 : decode cX9_isLike 88 = .ok (.invokevirtual 203, 3) := by decide +kernel
theorem dX9_isLike_91 : decode cX9_isLike 91 = .ok (.istore 6, 2) := by decide +kernel
theorem dX9_isLike_93 : decode cX9_isLike 93 = .ok (.aload_n 0, 1) := by decide +kernel
theorem dX9_isLike_94 : decode cX9_isLike 94 = .ok (.getfield 54, 3) := by decide +kernel
theorem dX9_isLike_97 : decode cX9_isLike 97 = .ok (.iload_n 3, 1) := by decide +kernel
theorem dX9_isLike_98 : decode cX9_isLike 98 = .ok (.baload, 1) := by decide +kernel
theorem dX9_isLike_99 : decode cX9_isLike 99 = .ok (.ifCond .ne 37, 3) := by decide +kernel
theorem dX9_isLike_102 : decode cX9_isLike 102 = .ok (.aload_n 0, 1) := by decide +kernel
theorem dX9_isLike_103 : decode cX9_isLike 103 = .ok (.getfield 54, 3) := by decide +kernel
theorem dX9_isLike_106 : decode cX9_isLike 106 = .ok (.iload_n 3, 1) := by decide +kernel
theorem dX9_isLike_107 : decode cX9_isLike 107 = .ok (.iconst 1, 1) := by decide +kernel
theorem dX9_isLike_108 : decode cX9_isLike 108 = .ok (.bastore, 1) := by decide +kernel
theorem dX9_isLike_109 : decode cX9_isLike 109 = .ok (.aload_n 0, 1) := by decide +kernel
theorem dX9_isLike_110 : decode cX9_isLike 110 = .ok (.getfield 45, 3) := by decide +kernel
theorem dX9_isLike_113 : decode cX9_isLike 113 = .ok (.iload_n 3, 1) := by decide +kernel
theorem dX9_isLike_114 : decode cX9_isLike 114 = .ok (.iload 4, 2) := by decide +kernel
theorem dX9_isLike_116 : decode cX9_isLike 116 = .ok (.iastore, 1) := by decide +kernel
theorem dX9_isLike_117 : decode cX9_isLike 117 = .ok (.aload_n 0, 1) := by decide +kernel
theorem dX9_isLike_118 : decode cX9_isLike 118 = .ok (.getfield 48, 3) := by decide +kernel
theorem dX9_isLike_121 : decode cX9_isLike 121 = .ok (.iload_n 3, 1) := by decide +kernel
theorem dX9_isLike_122 : decode cX9_isLike 122 = .ok (.iload 5, 2) := by decide +kernel
theorem dX9_isLike_124 : decode cX9_isLike 124 = .ok (.iastore, 1) := by decide +kernel
theorem dX9_isLike_125 : decode cX9_isLike 125 = .ok (.aload_n 0, 1) := by decide +kernel
theorem dX9_isLike_126 : decode cX9_isLike 126 = .ok (.getfield 51, 3) := by decide +kernel
theorem dX9_isLike_129 : decode cX9_isLike 129 = .ok (.iload_n 3, 1) := by decide +kernel
theorem dX9_isLike_130 : decode cX9_isLike 130 = .ok (.iload 6, 2) := by decide +kernel
theorem dX9_isLike_132 : decode cX9_isLike 132 = .ok (.iastore, 1) := by decide +kernel
theorem dX9_isLike_133 : decode cX9_isLike 133 = .ok (.goto 48, 3) := by decide +kernel
theorem dX9_isLike_136 : decode cX9_isLike 136 = .ok (.iload 4, 2) := by decide +kernel
theorem dX9_isLike_138 : decode cX9_isLike 138 = .ok (.aload_n 0, 1) := by decide +kernel
theorem dX9_isLike_139 : decode cX9_isLike 139 = .ok (.getfield 45, 3) := by decide +kernel
theorem dX9_isLike_142 : decode cX9_isLike 142 = .ok (.iload_n 3, 1) := by decide +kernel
theorem dX9_isLike_143 : decode cX9_isLike 143 = .ok (.iaload, 1) := by decide +kernel
theorem dX9_isLike_144 : decode cX9_isLike 144 = .ok (.if_icmp .ne 25, 3) := by decide +kernel
theorem dX9_isLike_147 : decode cX9_isLike 147 = .ok (.iload 5, 2) := by decide +kernel
theorem dX9_isLike_149 : decode cX9_isLike 149 = .ok (.aload_n 0, 1) := by decide +kernel
theorem dX9_isLike_150 : decode cX9_isLike 150 = .ok (.getfield 48, 3) := by decide +kernel
theorem dX9_isLike_153 : decode cX9_isLike 153 = .ok (.iload_n 3, 1) := by decide +kernel
theorem dX9_isLike_154 : decode cX9_isLike 154 = .ok (.iaload, 1) := by decide +kernel
theorem dX9_isLike_155 : decode cX9_isLike 155 = .ok (.if_icmp .ne 14, 3) := by decide +kernel
theorem dX9_isLike_158 : decode cX9_isLike 158 = .ok (.iload 6, 2) := by decide +kernel
theorem dX9_isLike_160 : decode cX9_isLike 160 = .ok (.aload_n 0, 1) := by decide +kernel
theorem dX9_isLike_161 : decode cX9_isLike 161 = .ok (.getfield 51, 3) := by decide +kernel
theorem dX9_isLike_164 : decode cX9_isLike 164 = .ok (.iload_n 3, 1) := by decide +kernel
theorem dX9_isLike_165 : decode cX9_isLike 165 = .ok (.iaload, 1) := by decide +kernel
theorem dX9_isLike_166 : decode cX9_isLike 166 = .ok (.if_icmp .eq 15, 3) := by decide +kernel
theorem dX9_isLike_169 : decode cX9_isLike 169 = .ok (.aload_n 0, 1) := by decide +kernel
theorem dX9_isLike_170 : decode cX9_isLike 170 = .ok (.iload_n 1, 1) := by decide +kernel
theorem dX9_isLike_171 : decode cX9_isLike 171 = .ok (.putfield 207, 3) := by decide +kernel
theorem dX9_isLike_174 : decode cX9_isLike 174 = .ok (.aload_n 0, 1) := by decide +kernel
theorem dX9_isLike_175 : decode cX9_isLike 175 = .ok (.iload_n 2, 1) := by decide +kernel
theorem dX9_isLike_176 : decode cX9_isLike 176 = .ok (.putfield 210, 3) := by decide +kernel
theorem dX9_isLike_179 : decode cX9_isLike 179 = .ok (.iconst 0, 1) := by decide +kernel
theorem dX9_isLike_180 : decode cX9_isLike 180 = .ok (.ireturn, 1) := by decide +kernel
theorem dX9_isLike_181 : decode cX9_isLike 181 = .ok (.iinc 2 1, 3) := by decide +kernel
theorem dX9_isLike_184 : decode cX9_isLike 184 = .ok (.goto (-142), 3) := by decide +kernel
theorem dX9_isLike_187 : decode cX9_isLike 187 = .ok (.iinc 1 1, 3) := by decide +kernel
theorem dX9_isLike_190 : decode cX9_isLike 190 = .ok (.goto (-158), 3) := by decide +kernel
theorem dX9_isLike_193 : decode cX9_isLike 193 = .ok (.iconst 1, 1) := by decide +kernel
theorem dX9_isLike_194 : decode cX9_isLike 194 = .ok (.ireturn, 1) := by decide +kernel
theorem dX9_many_0 : decode cX9_many 0 = .ok (.aload_n 0, 1) := by decide +kernel
theorem dX9_many_1 : decode cX9_many 1 = .ok (.invokevirtual 186, 3) := by decide +kernel
theorem dX9_many_4 : decode cX9_many 4 = .ok (.iload_n 1, 1) := by decide +kernel
theorem dX9_many_5 : decode cX9_many 5 = .ok (.tableswitch 158 0 9 #[55, 60, 65, 70, 84, 101, 106, 119, 132, 145], 55) := by decide +kernel
theorem dX9_many_60 : decode cX9_many 60 = .ok (.aload_n 0, 1) := by decide +kernel
theorem dX9_many_61 : decode cX9_many 61 = .ok (.getfield 116, 3) := by decide +kernel
theorem dX9_many_64 : decode cX9_many 64 = .ok (.ireturn, 1) := by decide +kernel
theorem dX9_many_65 : decode cX9_many 65 = .ok (.aload_n 0, 1) := by decide +kernel
theorem dX9_many_66 : decode cX9_many 66 = .ok (.invokevirtual 213, 3) := by decide +kernel
theorem dX9_many_69 : decode cX9_many 69 = .ok (.ireturn, 1) := by decide +kernel
theorem dX9_many_70 : decode cX9_many 70 = .ok (.aload_n 0, 1) := by decide +kernel
theorem dX9_many_71 : decode cX9_many 71 = .ok (.getfield 180, 3) := by decide +kernel
theorem dX9_many_74 : decode cX9_many 74 = .ok (.ireturn, 1) := by decide +kernel
theorem dX9_many_75 : decode cX9_many 75 = .ok (.aload_n 0, 1) := by decide +kernel
theorem dX9_many_76 : decode cX9_many 76 = .ok (.getfield 180, 3) := by decide +kernel
theorem dX9_many_79 : decode cX9_many 79 = .ok (.iconst 1, 1) := by decide +kernel
theorem dX9_many_80 : decode cX9_many 80 = .ok (.if_icmp .ne 7, 3) := by decide +kernel
theorem dX9_many_83 : decode cX9_many 83 = .ok (.iconst 1, 1) := by decide +kernel
theorem dX9_many_84 : decode cX9_many 84 = .ok (.goto 4, 3) := by decide +kernel
theorem dX9_many_87 : decode cX9_many 87 = .ok (.iconst 0, 1) := by decide +kernel
theorem dX9_many_88 : decode cX9_many 88 = .ok (.ireturn, 1) := by decide +kernel
theorem dX9_many_89 : decode cX9_many 89 = .ok (.aload_n 0, 1) := by decide +kernel
theorem dX9_many_90 : decode cX9_many 90 = .ok (.getfield 180, 3) := by decide +kernel
theorem dX9_many_93 : decode cX9_many 93 = .ok (.iconst 1, 1) := by decide +kernel
theorem dX9_many_94 : decode cX9_many 94 = .ok (.if_icmp .ne 10, 3) := by decide +kernel
theorem dX9_many_97 : decode cX9_many 97 = .ok (.aload_n 0, 1) := by decide +kernel
theorem dX9_many_98 : decode cX9_many 98 = .ok (.getfield 177, 3) := by decide +kernel
theorem dX9_many_101 : decode cX9_many 101 = .ok (.goto 4, 3) := by decide +kernel
theorem dX9_many_104 : decode cX9_many 104 = .ok (.iconst (-1), 1) := by decide +kernel
theorem dX9_many_105 : decode cX9_many 105 = .ok (.ireturn, 1) := by decide +kernel
theorem dX9_many_106 : decode cX9_many 106 = .ok (.aload_n 0, 1) := by decide +kernel
theorem dX9_many_107 : decode cX9_many 107 = .ok (.invokevirtual 217, 3) := by decide +kernel
theorem dX9_many_110 : decode cX9_many 110 = .ok (.ireturn, 1) := by decide +kernel
theorem dX9_many_111 : decode cX9_many 111 = .ok (.aload_n 0, 1) := by decide +kernel
theorem dX9_many_112 : decode cX9_many 112 = .ok (.invokevirtual 220, 3) := by decide +kernel
theorem dX9_many_115 : decode cX9_many 115 = .ok (.ifCond .eq 7, 3) := by decide +kernel
theorem dX9_many_118 : decode cX9_many 118 = .ok (.iconst 1, 1) := by decide +kernel
theorem dX9_many_119 : decode cX9_many 119 = .ok (.goto 4, 3) := by decide +kernel
theorem dX9_many_122 : decode cX9_many 122 = .ok (.iconst 0, 1) := by decide +kernel
theorem dX9_many_123 : decode cX9_many 123 = .ok (.ireturn, 1) := by decide +kernel
theorem dX9_many_124 : decode cX9_many 124 = .ok (.aload_n 0, 1) := by decide +kernel
theorem dX9_many_125 : decode cX9_many 125 = .ok (.invokevirtual 223, 3) := by decide +kernel
theorem dX9_many_128 : decode cX9_many 128 = .ok (.ifCond .eq 7, 3) := by decide +kernel
theorem dX9_many_131 : decode cX9_many 131 = .ok (.iconst 1, 1) := by decide +kernel
theorem dX9_many_132 : decode cX9_many 132 = .ok (.goto 4, 3) := by decide +kernel
theorem dX9_many_135 : decode cX9_many 135 = .ok (.iconst 0, 1) := by decide +kernel
theorem dX9_many_136 : decode cX9_many 136 = .ok (.ireturn, 1) := by decide +kernel
theorem dX9_many_137 : decode cX9_many 137 = .ok (.aload_n 0, 1) := by decide +kernel
theorem dX9_many_138 : decode cX9_many 138 = .ok (.invokevirtual 226, 3) := by decide +kernel
theorem dX9_many_141 : decode cX9_many 141 = .ok (.ifCond .eq 7, 3) := by decide +kernel
theorem dX9_many_144 : decode cX9_many 144 = .ok (.iconst 1, 1) := by decide +kernel
theorem dX9_many_145 : decode cX9_many 145 = .ok (.goto 4, 3) := by decide +kernel
theorem dX9_many_148 : decode cX9_many 148 = .ok (.iconst 0, 1) := by decide +kernel
theorem dX9_many_149 : decode cX9_many 149 = .ok (.ireturn, 1) := by decide +kernel
theorem dX9_many_150 : decode cX9_many 150 = .ok (.aload_n 0, 1) := by decide +kernel
theorem dX9_many_151 : decode cX9_many 151 = .ok (.invokevirtual 229, 3) := by decide +kernel
theorem dX9_many_154 : decode cX9_many 154 = .ok (.ifCond .eq 7, 3) := by decide +kernel
theorem dX9_many_157 : decode cX9_many 157 = .ok (.iconst 1, 1) := by decide +kernel
theorem dX9_many_158 : decode cX9_many 158 = .ok (.goto 4, 3) := by decide +kernel
theorem dX9_many_161 : decode cX9_many 161 = .ok (.iconst 0, 1) := by decide +kernel
theorem dX9_many_162 : decode cX9_many 162 = .ok (.ireturn, 1) := by decide +kernel
theorem dX9_many_163 : decode cX9_many 163 = .ok (.iconst (-1), 1) := by decide +kernel
theorem dX9_many_164 : decode cX9_many 164 = .ok (.ireturn, 1) := by decide +kernel
theorem dX9_clash_0 : decode cX9_clash 0 = .ok (.iload_n 1, 1) := by decide +kernel
theorem dX9_clash_1 : decode cX9_clash 1 = .ok (.i2l, 1) := by decide +kernel
theorem dX9_clash_2 : decode cX9_clash 2 = .ok (.lconst 0, 1) := by decide +kernel
theorem dX9_clash_3 : decode cX9_clash 3 = .ok (.lconst 1, 1) := by decide +kernel
theorem dX9_clash_4 : decode cX9_clash 4 = .ok (.invokestatic 112, 3) := by decide +kernel
theorem dX9_clash_7 : decode cX9_clash 7 = .ok (.ifCond .ne 5, 3) := by decide +kernel
theorem dX9_clash_10 : decode cX9_clash 10 = .ok (.iconst (-1), 1) := by decide +kernel
theorem dX9_clash_11 : decode cX9_clash 11 = .ok (.ireturn, 1) := by decide +kernel
theorem dX9_clash_12 : decode cX9_clash 12 = .ok (.aload_n 0, 1) := by decide +kernel
theorem dX9_clash_13 : decode cX9_clash 13 = .ok (.invokevirtual 195, 3) := by decide +kernel
theorem dX9_clash_16 : decode cX9_clash 16 = .ok (.ifCond .ne 6, 3) := by decide +kernel
theorem dX9_clash_19 : decode cX9_clash 19 = .ok (.bipush (-5), 2) := by decide +kernel
theorem dX9_clash_21 : decode cX9_clash 21 = .ok (.ireturn, 1) := by decide +kernel
theorem dX9_clash_22 : decode cX9_clash 22 = .ok (.aload_n 0, 1) := by decide +kernel
theorem dX9_clash_23 : decode cX9_clash 23 = .ok (.invokevirtual 229, 3) := by decide +kernel
theorem dX9_clash_26 : decode cX9_clash 26 = .ok (.ifCond .eq 8, 3) := by decide +kernel
theorem dX9_clash_29 : decode cX9_clash 29 = .ok (.bipush (-8), 2) := by decide +kernel
theorem dX9_clash_31 : decode cX9_clash 31 = .ok (.goto 18, 3) := by decide +kernel
theorem dX9_clash_34 : decode cX9_clash 34 = .ok (.iload_n 1, 1) := by decide +kernel
theorem dX9_clash_35 : decode cX9_clash 35 = .ok (.ifCond .ne 10, 3) := by decide +kernel
theorem dX9_clash_38 : decode cX9_clash 38 = .ok (.aload_n 0, 1) := by decide +kernel
theorem dX9_clash_39 : decode cX9_clash 39 = .ok (.getfield 207, 3) := by decide +kernel
theorem dX9_clash_42 : decode cX9_clash 42 = .ok (.goto 7, 3) := by decide +kernel
theorem dX9_clash_45 : decode cX9_clash 45 = .ok (.aload_n 0, 1) := by decide +kernel
theorem dX9_clash_46 : decode cX9_clash 46 = .ok (.getfield 210, 3) := by decide +kernel
theorem dX9_clash_49 : decode cX9_clash 49 = .ok (.ireturn, 1) := by decide +kernel
theorem dX9_atWay_0 : decode cX9_atWay 0 = .ok (.iconst 0, 1) := by decide +kernel
theorem dX9_atWay_1 : decode cX9_atWay 1 = .ok (.istore_n 3, 1) := by decide +kernel
theorem dX9_atWay_2 : decode cX9_atWay 2 = .ok (.iconst 0, 1) := by decide +kernel
theorem dX9_atWay_3 : decode cX9_atWay 3 = .ok (.istore 4, 2) := by decide +kernel
theorem dX9_atWay_5 : decode cX9_atWay 5 = .ok (.iload 4, 2) := by decide +kernel
theorem dX9_atWay_7 : decode cX9_atWay 7 = .ok (.aload_n 0, 1) := by decide +kernel
theorem dX9_atWay_8 : decode cX9_atWay 8 = .ok (.getfield 116, 3) := by decide +kernel
theorem dX9_atWay_11 : decode cX9_atWay 11 = .ok (.if_icmp .ge 33, 3) := by decide +kernel
theorem dX9_atWay_14 : decode cX9_atWay 14 = .ok (.iload_n 3, 1) := by decide +kernel
theorem dX9_atWay_15 : decode cX9_atWay 15 = .ok (.aload_n 0, 1) := by decide +kernel
theorem dX9_atWay_16 : decode cX9_atWay 16 = .ok (.getfield 39, 3) := by decide +kernel
theorem dX9_atWay_19 : decode cX9_atWay 19 = .ok (.bipush 32, 2) := by decide +kernel
theorem dX9_atWay_21 : decode cX9_atWay 21 = .ok (.iload_n 1, 1) := by decide +kernel
theorem dX9_atWay_22 : decode cX9_atWay 22 = .ok (.imul, 1) := by decide +kernel
theorem dX9_atWay_23 : decode cX9_atWay 23 = .ok (.iload 4, 2) := by decide +kernel
theorem dX9_atWay_25 : decode cX9_atWay 25 = .ok (.iadd, 1) := by decide +kernel
theorem dX9_atWay_26 : decode cX9_atWay 26 = .ok (.iaload, 1) := by decide +kernel
theorem dX9_atWay_27 : decode cX9_atWay 27 = .ok (.iload_n 2, 1) := by decide +kernel
theorem dX9_atWay_28 : decode cX9_atWay 28 = .ok (.if_icmp .ne 7, 3) := by decide +kernel
theorem dX9_atWay_31 : decode cX9_atWay 31 = .ok (.iconst 1, 1) := by decide +kernel
theorem dX9_atWay_32 : decode cX9_atWay 32 = .ok (.goto 4, 3) := by decide +kernel
theorem dX9_atWay_35 : decode cX9_atWay 35 = .ok (.iconst 0, 1) := by decide +kernel
theorem dX9_atWay_36 : decode cX9_atWay 36 = .ok (.iadd, 1) := by decide +kernel
theorem dX9_atWay_37 : decode cX9_atWay 37 = .ok (.istore_n 3, 1) := by decide +kernel
theorem dX9_atWay_38 : decode cX9_atWay 38 = .ok (.iinc 4 1, 3) := by decide +kernel
theorem dX9_atWay_41 : decode cX9_atWay 41 = .ok (.goto (-36), 3) := by decide +kernel
theorem dX9_atWay_44 : decode cX9_atWay 44 = .ok (.iload_n 3, 1) := by decide +kernel
theorem dX9_atWay_45 : decode cX9_atWay 45 = .ok (.ireturn, 1) := by decide +kernel
theorem dX9_table_0 : decode cX9_table 0 = .ok (.iload_n 2, 1) := by decide +kernel
theorem dX9_table_1 : decode cX9_table 1 = .ok (.i2l, 1) := by decide +kernel
theorem dX9_table_2 : decode cX9_table 2 = .ok (.lconst 0, 1) := by decide +kernel
theorem dX9_table_3 : decode cX9_table 3 = .ok (.ldc2_w 110, 3) := by decide +kernel
theorem dX9_table_6 : decode cX9_table 6 = .ok (.invokestatic 112, 3) := by decide +kernel
theorem dX9_table_9 : decode cX9_table 9 = .ok (.ifCond .ne 5, 3) := by decide +kernel
theorem dX9_table_12 : decode cX9_table 12 = .ok (.iconst (-1), 1) := by decide +kernel
theorem dX9_table_13 : decode cX9_table 13 = .ok (.ireturn, 1) := by decide +kernel
theorem dX9_table_14 : decode cX9_table 14 = .ok (.aload_n 0, 1) := by decide +kernel
theorem dX9_table_15 : decode cX9_table 15 = .ok (.invokevirtual 229, 3) := by decide +kernel
theorem dX9_table_18 : decode cX9_table 18 = .ok (.ifCond .ne 6, 3) := by decide +kernel
theorem dX9_table_21 : decode cX9_table 21 = .ok (.bipush (-5), 2) := by decide +kernel
theorem dX9_table_23 : decode cX9_table 23 = .ok (.ireturn, 1) := by decide +kernel
theorem dX9_table_24 : decode cX9_table 24 = .ok (.iload_n 1, 1) := by decide +kernel
theorem dX9_table_25 : decode cX9_table 25 = .ok (.i2l, 1) := by decide +kernel
theorem dX9_table_26 : decode cX9_table 26 = .ok (.lconst 0, 1) := by decide +kernel
theorem dX9_table_27 : decode cX9_table 27 = .ok (.aload_n 0, 1) := by decide +kernel
theorem dX9_table_28 : decode cX9_table 28 = .ok (.getfield 177, 3) := by decide +kernel
theorem dX9_table_31 : decode cX9_table 31 = .ok (.i2l, 1) := by decide +kernel
theorem dX9_table_32 : decode cX9_table 32 = .ok (.invokestatic 112, 3) := by decide +kernel
theorem dX9_table_35 : decode cX9_table 35 = .ok (.ifCond .ne 5, 3) := by decide +kernel
theorem dX9_table_38 : decode cX9_table 38 = .ok (.iconst (-1), 1) := by decide +kernel
theorem dX9_table_39 : decode cX9_table 39 = .ok (.ireturn, 1) := by decide +kernel
theorem dX9_table_40 : decode cX9_table 40 = .ok (.iload_n 2, 1) := by decide +kernel
theorem dX9_table_41 : decode cX9_table 41 = .ok (.ifCond .ne 12, 3) := by decide +kernel
theorem dX9_table_44 : decode cX9_table 44 = .ok (.aload_n 0, 1) := by decide +kernel
theorem dX9_table_45 : decode cX9_table 45 = .ok (.getfield 45, 3) := by decide +kernel
theorem dX9_table_48 : decode cX9_table 48 = .ok (.iload_n 1, 1) := by decide +kernel
theorem dX9_table_49 : decode cX9_table 49 = .ok (.iaload, 1) := by decide +kernel
theorem dX9_table_50 : decode cX9_table 50 = .ok (.goto 37, 3) := by decide +kernel
theorem dX9_table_53 : decode cX9_table 53 = .ok (.iload_n 2, 1) := by decide +kernel
theorem dX9_table_54 : decode cX9_table 54 = .ok (.iconst 1, 1) := by decide +kernel
theorem dX9_table_55 : decode cX9_table 55 = .ok (.if_icmp .ne 12, 3) := by decide +kernel
theorem dX9_table_58 : decode cX9_table 58 = .ok (.aload_n 0, 1) := by decide +kernel
theorem dX9_table_59 : decode cX9_table 59 = .ok (.getfield 48, 3) := by decide +kernel
theorem dX9_table_62 : decode cX9_table 62 = .ok (.iload_n 1, 1) := by decide +kernel
theorem dX9_table_63 : decode cX9_table 63 = .ok (.iaload, 1) := by decide +kernel
theorem dX9_table_64 : decode cX9_table 64 = .ok (.goto 23, 3) := by decide +kernel
theorem dX9_table_67 : decode cX9_table 67 = .ok (.iload_n 2, 1) := by decide +kernel
theorem dX9_table_68 : decode cX9_table 68 = .ok (.iconst 2, 1) := by decide +kernel
theorem dX9_table_69 : decode cX9_table 69 = .ok (.if_icmp .ne 12, 3) := by decide +kernel
theorem dX9_table_72 : decode cX9_table 72 = .ok (.aload_n 0, 1) := by decide +kernel
theorem dX9_table_73 : decode cX9_table 73 = .ok (.getfield 51, 3) := by decide +kernel
theorem dX9_table_76 : decode cX9_table 76 = .ok (.iload_n 1, 1) := by decide +kernel
theorem dX9_table_77 : decode cX9_table 77 = .ok (.iaload, 1) := by decide +kernel
theorem dX9_table_78 : decode cX9_table 78 = .ok (.goto 9, 3) := by decide +kernel
theorem dX9_table_81 : decode cX9_table 81 = .ok (.aload_n 0, 1) := by decide +kernel
theorem dX9_table_82 : decode cX9_table 82 = .ok (.iconst 0, 1) := by decide +kernel
theorem dX9_table_83 : decode cX9_table 83 = .ok (.iload_n 1, 1) := by decide +kernel
theorem dX9_table_84 : decode cX9_table 84 = .ok (.invokevirtual 232, 3) := by decide +kernel
theorem dX9_table_87 : decode cX9_table 87 = .ok (.ireturn, 1) := by decide +kernel
theorem dX9_thirds_0 : decode cX9_thirds 0 = .ok (.aload_n 0, 1) := by decide +kernel
theorem dX9_thirds_1 : decode cX9_thirds 1 = .ok (.iload_n 1, 1) := by decide +kernel
theorem dX9_thirds_2 : decode cX9_thirds 2 = .ok (.invokevirtual 138, 3) := by decide +kernel
theorem dX9_thirds_5 : decode cX9_thirds 5 = .ok (.ifCond .eq 20, 3) := by decide +kernel
theorem dX9_thirds_8 : decode cX9_thirds 8 = .ok (.aload_n 0, 1) := by decide +kernel
theorem dX9_thirds_9 : decode cX9_thirds 9 = .ok (.iload_n 2, 1) := by decide +kernel
theorem dX9_thirds_10 : decode cX9_thirds 10 = .ok (.invokevirtual 138, 3) := by decide +kernel
theorem dX9_thirds_13 : decode cX9_thirds 13 = .ok (.ifCond .eq 12, 3) := by decide +kernel
theorem dX9_thirds_16 : decode cX9_thirds 16 = .ok (.iload_n 3, 1) := by decide +kernel
theorem dX9_thirds_17 : decode cX9_thirds 17 = .ok (.ifCond .lt 8, 3) := by decide +kernel
theorem dX9_thirds_20 : decode cX9_thirds 20 = .ok (.iload 4, 2) := by decide +kernel
theorem dX9_thirds_22 : decode cX9_thirds 22 = .ok (.ifCond .ge 5, 3) := by decide +kernel
theorem dX9_thirds_25 : decode cX9_thirds 25 = .ok (.iconst (-1), 1) := by decide +kernel
theorem dX9_thirds_26 : decode cX9_thirds 26 = .ok (.ireturn, 1) := by decide +kernel
theorem dX9_thirds_27 : decode cX9_thirds 27 = .ok (.aload_n 0, 1) := by decide +kernel
theorem dX9_thirds_28 : decode cX9_thirds 28 = .ok (.invokevirtual 186, 3) := by decide +kernel
theorem dX9_thirds_31 : decode cX9_thirds 31 = .ok (.iconst 0, 1) := by decide +kernel
theorem dX9_thirds_32 : decode cX9_thirds 32 = .ok (.istore 5, 2) := by decide +kernel
theorem dX9_thirds_34 : decode cX9_thirds 34 = .ok (.iconst 0, 1) := by decide +kernel
theorem dX9_thirds_35 : decode cX9_thirds 35 = .ok (.istore 6, 2) := by decide +kernel
theorem dX9_thirds_37 : decode cX9_thirds 37 = .ok (.iload 6, 2) := by decide +kernel
theorem dX9_thirds_39 : decode cX9_thirds 39 = .ok (.aload_n 0, 1) := by decide +kernel
theorem dX9_thirds_40 : decode cX9_thirds 40 = .ok (.getfield 116, 3) := by decide +kernel
theorem dX9_thirds_43 : decode cX9_thirds 43 = .ok (.if_icmp .ge 98, 3) := by decide +kernel
theorem dX9_thirds_46 : decode cX9_thirds 46 = .ok (.aload_n 0, 1) := by decide +kernel
theorem dX9_thirds_47 : decode cX9_thirds 47 = .ok (.getfield 39, 3) := by decide +kernel
theorem dX9_thirds_50 : decode cX9_thirds 50 = .ok (.bipush 32, 2) := by decide +kernel
theorem dX9_thirds_52 : decode cX9_thirds 52 = .ok (.iload_n 1, 1) := by decide +kernel
theorem dX9_thirds_53 : decode cX9_thirds 53 = .ok (.imul, 1) := by decide +kernel
theorem dX9_thirds_54 : decode cX9_thirds 54 = .ok (.iload 6, 2) := by decide +kernel
theorem dX9_thirds_56 : decode cX9_thirds 56 = .ok (.iadd, 1) := by decide +kernel
theorem dX9_thirds_57 : decode cX9_thirds 57 = .ok (.iaload, 1) := by decide +kernel
theorem dX9_thirds_58 : decode cX9_thirds 58 = .ok (.bipush 99, 2) := by decide +kernel
theorem dX9_thirds_60 : decode cX9_thirds 60 = .ok (.if_icmp .eq 24, 3) := by decide +kernel
theorem dX9_thirds_63 : decode cX9_thirds 63 = .ok (.aload_n 0, 1) := by decide +kernel
theorem dX9_thirds_64 : decode cX9_thirds 64 = .ok (.getfield 39, 3) := by decide +kernel
theorem dX9_thirds_67 : decode cX9_thirds 67 = .ok (.bipush 32, 2) := by decide +kernel
theorem dX9_thirds_69 : decode cX9_thirds 69 = .ok (.iload_n 2, 1) := by decide +kernel
theorem dX9_thirds_70 : decode cX9_thirds 70 = .ok (.imul, 1) := by decide +kernel
theorem dX9_thirds_71 : decode cX9_thirds 71 = .ok (.iload 6, 2) := by decide +kernel
theorem dX9_thirds_73 : decode cX9_thirds 73 = .ok (.iadd, 1) := by decide +kernel
theorem dX9_thirds_74 : decode cX9_thirds 74 = .ok (.iaload, 1) := by decide +kernel
theorem dX9_thirds_75 : decode cX9_thirds 75 = .ok (.bipush 99, 2) := by decide +kernel
theorem dX9_thirds_77 : decode cX9_thirds 77 = .ok (.if_icmp .eq 7, 3) := by decide +kernel
theorem dX9_thirds_80 : decode cX9_thirds 80 = .ok (.iconst 1, 1) := by decide +kernel
theorem dX9_thirds_81 : decode cX9_thirds 81 = .ok (.goto 4, 3) := by decide +kernel
theorem dX9_thirds_84 : decode cX9_thirds 84 = .ok (.iconst 0, 1) := by decide +kernel
theorem dX9_thirds_85 : decode cX9_thirds 85 = .ok (.istore 7, 2) := by decide +kernel
theorem dX9_thirds_87 : decode cX9_thirds 87 = .ok (.iload 5, 2) := by decide +kernel
theorem dX9_thirds_89 : decode cX9_thirds 89 = .ok (.iload 7, 2) := by decide +kernel
theorem dX9_thirds_91 : decode cX9_thirds 91 = .ok (.ifCond .eq 40, 3) := by decide +kernel
theorem dX9_thirds_94 : decode cX9_thirds 94 = .ok (.aload_n 0, 1) := by decide +kernel
theorem dX9_thirds_95 : decode cX9_thirds 95 = .ok (.getfield 39, 3) := by decide +kernel
theorem dX9_thirds_98 : decode cX9_thirds 98 = .ok (.bipush 32, 2) := by decide +kernel
theorem dX9_thirds_100 : decode cX9_thirds 100 = .ok (.iload_n 1, 1) := by decide +kernel
theorem dX9_thirds_101 : decode cX9_thirds 101 = .ok (.imul, 1) := by decide +kernel
theorem dX9_thirds_102 : decode cX9_thirds 102 = .ok (.iload 6, 2) := by decide +kernel
theorem dX9_thirds_104 : decode cX9_thirds 104 = .ok (.iadd, 1) := by decide +kernel
theorem dX9_thirds_105 : decode cX9_thirds 105 = .ok (.iaload, 1) := by decide +kernel
theorem dX9_thirds_106 : decode cX9_thirds 106 = .ok (.iload_n 3, 1) := by decide +kernel
theorem dX9_thirds_107 : decode cX9_thirds 107 = .ok (.if_icmp .ne 24, 3) := by decide +kernel
theorem dX9_thirds_110 : decode cX9_thirds 110 = .ok (.aload_n 0, 1) := by decide +kernel
theorem dX9_thirds_111 : decode cX9_thirds 111 = .ok (.getfield 39, 3) := by decide +kernel
theorem dX9_thirds_114 : decode cX9_thirds 114 = .ok (.bipush 32, 2) := by decide +kernel
theorem dX9_thirds_116 : decode cX9_thirds 116 = .ok (.iload_n 2, 1) := by decide +kernel
theorem dX9_thirds_117 : decode cX9_thirds 117 = .ok (.imul, 1) := by decide +kernel
theorem dX9_thirds_118 : decode cX9_thirds 118 = .ok (.iload 6, 2) := by decide +kernel
theorem dX9_thirds_120 : decode cX9_thirds 120 = .ok (.iadd, 1) := by decide +kernel
theorem dX9_thirds_121 : decode cX9_thirds 121 = .ok (.iaload, 1) := by decide +kernel
theorem dX9_thirds_122 : decode cX9_thirds 122 = .ok (.iload 4, 2) := by decide +kernel
theorem dX9_thirds_124 : decode cX9_thirds 124 = .ok (.if_icmp .ne 7, 3) := by decide +kernel
theorem dX9_thirds_127 : decode cX9_thirds 127 = .ok (.iconst 1, 1) := by decide +kernel
theorem dX9_thirds_128 : decode cX9_thirds 128 = .ok (.goto 4, 3) := by decide +kernel
theorem dX9_thirds_131 : decode cX9_thirds 131 = .ok (.iconst 0, 1) := by decide +kernel
theorem dX9_thirds_132 : decode cX9_thirds 132 = .ok (.iadd, 1) := by decide +kernel
theorem dX9_thirds_133 : decode cX9_thirds 133 = .ok (.istore 5, 2) := by decide +kernel
theorem dX9_thirds_135 : decode cX9_thirds 135 = .ok (.iinc 6 1, 3) := by decide +kernel
theorem dX9_thirds_138 : decode cX9_thirds 138 = .ok (.goto (-101), 3) := by decide +kernel
theorem dX9_thirds_141 : decode cX9_thirds 141 = .ok (.iload 5, 2) := by decide +kernel
theorem dX9_thirds_143 : decode cX9_thirds 143 = .ok (.ireturn, 1) := by decide +kernel
theorem dX9_tell_0 : decode cX9_tell 0 = .ok (.iload_n 1, 1) := by decide +kernel
theorem dX9_tell_1 : decode cX9_tell 1 = .ok (.i2l, 1) := by decide +kernel
theorem dX9_tell_2 : decode cX9_tell 2 = .ok (.lconst 1, 1) := by decide +kernel
theorem dX9_tell_3 : decode cX9_tell 3 = .ok (.ldc2_w 235, 3) := by decide +kernel
theorem dX9_tell_6 : decode cX9_tell 6 = .ok (.invokestatic 112, 3) := by decide +kernel
theorem dX9_tell_9 : decode cX9_tell 9 = .ok (.ifCond .ne 5, 3) := by decide +kernel
theorem dX9_tell_12 : decode cX9_tell 12 = .ok (.iconst (-1), 1) := by decide +kernel
theorem dX9_tell_13 : decode cX9_tell 13 = .ok (.ireturn, 1) := by decide +kernel
theorem dX9_tell_14 : decode cX9_tell 14 = .ok (.aload_n 0, 1) := by decide +kernel
theorem dX9_tell_15 : decode cX9_tell 15 = .ok (.iload_n 1, 1) := by decide +kernel
theorem dX9_tell_16 : decode cX9_tell 16 = .ok (.putfield 26, 3) := by decide +kernel
theorem dX9_tell_19 : decode cX9_tell 19 = .ok (.iconst 0, 1) := by decide +kernel
theorem dX9_tell_20 : decode cX9_tell 20 = .ok (.istore_n 2, 1) := by decide +kernel
theorem dX9_tell_21 : decode cX9_tell 21 = .ok (.iload_n 2, 1) := by decide +kernel
theorem dX9_tell_22 : decode cX9_tell 22 = .ok (.bipush 6, 2) := by decide +kernel
theorem dX9_tell_24 : decode cX9_tell 24 = .ok (.if_icmp .ge 45, 3) := by decide +kernel
theorem dX9_tell_27 : decode cX9_tell 27 = .ok (.aload_n 0, 1) := by decide +kernel
theorem dX9_tell_28 : decode cX9_tell 28 = .ok (.getfield 30, 3) := by decide +kernel
theorem dX9_tell_31 : decode cX9_tell 31 = .ok (.iload_n 2, 1) := by decide +kernel
theorem dX9_tell_32 : decode cX9_tell 32 = .ok (.iload_n 2, 1) := by decide +kernel
theorem dX9_tell_33 : decode cX9_tell 33 = .ok (.iload_n 1, 1) := by decide +kernel
theorem dX9_tell_34 : decode cX9_tell 34 = .ok (.if_icmp .ge 7, 3) := by decide +kernel
theorem dX9_tell_37 : decode cX9_tell 37 = .ok (.iconst 1, 1) := by decide +kernel
theorem dX9_tell_38 : decode cX9_tell 38 = .ok (.goto 4, 3) := by decide +kernel
theorem dX9_tell_41 : decode cX9_tell 41 = .ok (.iconst 0, 1) := by decide +kernel
theorem dX9_tell_42 : decode cX9_tell 42 = .ok (.iastore, 1) := by decide +kernel
theorem dX9_tell_43 : decode cX9_tell 43 = .ok (.aload_n 0, 1) := by decide +kernel
theorem dX9_tell_44 : decode cX9_tell 44 = .ok (.getfield 33, 3) := by decide +kernel
theorem dX9_tell_47 : decode cX9_tell 47 = .ok (.iload_n 2, 1) := by decide +kernel
theorem dX9_tell_48 : decode cX9_tell 48 = .ok (.iload_n 2, 1) := by decide +kernel
theorem dX9_tell_49 : decode cX9_tell 49 = .ok (.ifCond .le 12, 3) := by decide +kernel
theorem dX9_tell_52 : decode cX9_tell 52 = .ok (.iload_n 2, 1) := by decide +kernel
theorem dX9_tell_53 : decode cX9_tell 53 = .ok (.iload_n 1, 1) := by decide +kernel
theorem dX9_tell_54 : decode cX9_tell 54 = .ok (.if_icmp .gt 7, 3) := by decide +kernel
theorem dX9_tell_57 : decode cX9_tell 57 = .ok (.iconst 1, 1) := by decide +kernel
theorem dX9_tell_58 : decode cX9_tell 58 = .ok (.goto 4, 3) := by decide +kernel
theorem dX9_tell_61 : decode cX9_tell 61 = .ok (.iconst 0, 1) := by decide +kernel
theorem dX9_tell_62 : decode cX9_tell 62 = .ok (.iastore, 1) := by decide +kernel
theorem dX9_tell_63 : decode cX9_tell 63 = .ok (.iinc 2 1, 3) := by decide +kernel
theorem dX9_tell_66 : decode cX9_tell 66 = .ok (.goto (-45), 3) := by decide +kernel
theorem dX9_tell_69 : decode cX9_tell 69 = .ok (.iconst 1, 1) := by decide +kernel
theorem dX9_tell_70 : decode cX9_tell 70 = .ok (.ireturn, 1) := by decide +kernel
theorem dX9_put_0 : decode cX9_put 0 = .ok (.iload_n 1, 1) := by decide +kernel
theorem dX9_put_1 : decode cX9_put 1 = .ok (.i2l, 1) := by decide +kernel
theorem dX9_put_2 : decode cX9_put 2 = .ok (.lconst 0, 1) := by decide +kernel
theorem dX9_put_3 : decode cX9_put 3 = .ok (.lconst 1, 1) := by decide +kernel
theorem dX9_put_4 : decode cX9_put 4 = .ok (.invokestatic 112, 3) := by decide +kernel
theorem dX9_put_7 : decode cX9_put 7 = .ok (.ifCond .eq 34, 3) := by decide +kernel
theorem dX9_put_10 : decode cX9_put 10 = .ok (.iload_n 3, 1) := by decide +kernel
theorem dX9_put_11 : decode cX9_put 11 = .ok (.i2l, 1) := by decide +kernel
theorem dX9_put_12 : decode cX9_put 12 = .ok (.lconst 0, 1) := by decide +kernel
theorem dX9_put_13 : decode cX9_put 13 = .ok (.ldc2_w 237, 3) := by decide +kernel
theorem dX9_put_16 : decode cX9_put 16 = .ok (.invokestatic 112, 3) := by decide +kernel
theorem dX9_put_19 : decode cX9_put 19 = .ok (.ifCond .eq 22, 3) := by decide +kernel
theorem dX9_put_22 : decode cX9_put 22 = .ok (.iload_n 2, 1) := by decide +kernel
theorem dX9_put_23 : decode cX9_put 23 = .ok (.i2l, 1) := by decide +kernel
theorem dX9_put_24 : decode cX9_put 24 = .ok (.iload_n 1, 1) := by decide +kernel
theorem dX9_put_25 : decode cX9_put 25 = .ok (.i2l, 1) := by decide +kernel
theorem dX9_put_26 : decode cX9_put 26 = .ok (.aload_n 0, 1) := by decide +kernel
theorem dX9_put_27 : decode cX9_put 27 = .ok (.getfield 26, 3) := by decide +kernel
theorem dX9_put_30 : decode cX9_put 30 = .ok (.iconst 1, 1) := by decide +kernel
theorem dX9_put_31 : decode cX9_put 31 = .ok (.isub, 1) := by decide +kernel
theorem dX9_put_32 : decode cX9_put 32 = .ok (.iload_n 1, 1) := by decide +kernel
theorem dX9_put_33 : decode cX9_put 33 = .ok (.iadd, 1) := by decide +kernel
theorem dX9_put_34 : decode cX9_put 34 = .ok (.i2l, 1) := by decide +kernel
theorem dX9_put_35 : decode cX9_put 35 = .ok (.invokestatic 112, 3) := by decide +kernel
theorem dX9_put_38 : decode cX9_put 38 = .ok (.ifCond .ne 5, 3) := by decide +kernel
theorem dX9_put_41 : decode cX9_put 41 = .ok (.iconst (-1), 1) := by decide +kernel
theorem dX9_put_42 : decode cX9_put 42 = .ok (.ireturn, 1) := by decide +kernel
theorem dX9_put_43 : decode cX9_put 43 = .ok (.iload_n 1, 1) := by decide +kernel
theorem dX9_put_44 : decode cX9_put 44 = .ok (.ifCond .ne 13, 3) := by decide +kernel
theorem dX9_put_47 : decode cX9_put 47 = .ok (.aload_n 0, 1) := by decide +kernel
theorem dX9_put_48 : decode cX9_put 48 = .ok (.getfield 30, 3) := by decide +kernel
theorem dX9_put_51 : decode cX9_put 51 = .ok (.iload_n 2, 1) := by decide +kernel
theorem dX9_put_52 : decode cX9_put 52 = .ok (.iload_n 3, 1) := by decide +kernel
theorem dX9_put_53 : decode cX9_put 53 = .ok (.iastore, 1) := by decide +kernel
theorem dX9_put_54 : decode cX9_put 54 = .ok (.goto 10, 3) := by decide +kernel
theorem dX9_put_57 : decode cX9_put 57 = .ok (.aload_n 0, 1) := by decide +kernel
theorem dX9_put_58 : decode cX9_put 58 = .ok (.getfield 33, 3) := by decide +kernel
theorem dX9_put_61 : decode cX9_put 61 = .ok (.iload_n 2, 1) := by decide +kernel
theorem dX9_put_62 : decode cX9_put 62 = .ok (.iload_n 3, 1) := by decide +kernel
theorem dX9_put_63 : decode cX9_put 63 = .ok (.iastore, 1) := by decide +kernel
theorem dX9_put_64 : decode cX9_put 64 = .ok (.iconst 1, 1) := by decide +kernel
theorem dX9_put_65 : decode cX9_put 65 = .ok (.ireturn, 1) := by decide +kernel
theorem dX9_take_0 : decode cX9_take 0 = .ok (.aload_n 0, 1) := by decide +kernel
theorem dX9_take_1 : decode cX9_take 1 = .ok (.invokevirtual 229, 3) := by decide +kernel
theorem dX9_take_4 : decode cX9_take 4 = .ok (.ifCond .eq 22, 3) := by decide +kernel
theorem dX9_take_7 : decode cX9_take 7 = .ok (.aload_n 0, 1) := by decide +kernel
theorem dX9_take_8 : decode cX9_take 8 = .ok (.getfield 177, 3) := by decide +kernel
theorem dX9_take_11 : decode cX9_take 11 = .ok (.i2l, 1) := by decide +kernel
theorem dX9_take_12 : decode cX9_take 12 = .ok (.lconst 1, 1) := by decide +kernel
theorem dX9_take_13 : decode cX9_take 13 = .ok (.ldc2_w 235, 3) := by decide +kernel
theorem dX9_take_16 : decode cX9_take 16 = .ok (.invokestatic 112, 3) := by decide +kernel
theorem dX9_take_19 : decode cX9_take 19 = .ok (.ifCond .eq 7, 3) := by decide +kernel
theorem dX9_take_22 : decode cX9_take 22 = .ok (.iconst 1, 1) := by decide +kernel
theorem dX9_take_23 : decode cX9_take 23 = .ok (.goto 4, 3) := by decide +kernel
theorem dX9_take_26 : decode cX9_take 26 = .ok (.iconst 0, 1) := by decide +kernel
theorem dX9_take_27 : decode cX9_take 27 = .ok (.istore_n 1, 1) := by decide +kernel
theorem dX9_take_28 : decode cX9_take 28 = .ok (.iconst 0, 1) := by decide +kernel
theorem dX9_take_29 : decode cX9_take 29 = .ok (.istore_n 2, 1) := by decide +kernel
theorem dX9_take_30 : decode cX9_take 30 = .ok (.iload_n 2, 1) := by decide +kernel
theorem dX9_take_31 : decode cX9_take 31 = .ok (.aload_n 0, 1) := by decide +kernel
theorem dX9_take_32 : decode cX9_take 32 = .ok (.getfield 177, 3) := by decide +kernel
theorem dX9_take_35 : decode cX9_take 35 = .ok (.if_icmp .gt 41, 3) := by decide +kernel
theorem dX9_take_38 : decode cX9_take 38 = .ok (.iload_n 1, 1) := by decide +kernel
theorem dX9_take_39 : decode cX9_take 39 = .ok (.ifCond .eq 37, 3) := by decide +kernel
theorem dX9_take_42 : decode cX9_take 42 = .ok (.aload_n 0, 1) := by decide +kernel
theorem dX9_take_43 : decode cX9_take 43 = .ok (.getfield 51, 3) := by decide +kernel
theorem dX9_take_46 : decode cX9_take 46 = .ok (.iload_n 2, 1) := by decide +kernel
theorem dX9_take_47 : decode cX9_take 47 = .ok (.iaload, 1) := by decide +kernel
theorem dX9_take_48 : decode cX9_take 48 = .ok (.bipush 20, 2) := by decide +kernel
theorem dX9_take_50 : decode cX9_take 50 = .ok (.if_icmp .gt 18, 3) := by decide +kernel
theorem dX9_take_53 : decode cX9_take 53 = .ok (.aload_n 0, 1) := by decide +kernel
theorem dX9_take_54 : decode cX9_take 54 = .ok (.getfield 45, 3) := by decide +kernel
theorem dX9_take_57 : decode cX9_take 57 = .ok (.iload_n 2, 1) := by decide +kernel
theorem dX9_take_58 : decode cX9_take 58 = .ok (.iaload, 1) := by decide +kernel
theorem dX9_take_59 : decode cX9_take 59 = .ok (.bipush 20, 2) := by decide +kernel
theorem dX9_take_61 : decode cX9_take 61 = .ok (.if_icmp .gt 7, 3) := by decide +kernel
theorem dX9_take_64 : decode cX9_take 64 = .ok (.iconst 1, 1) := by decide +kernel
theorem dX9_take_65 : decode cX9_take 65 = .ok (.goto 4, 3) := by decide +kernel
theorem dX9_take_68 : decode cX9_take 68 = .ok (.iconst 0, 1) := by decide +kernel
theorem dX9_take_69 : decode cX9_take 69 = .ok (.istore_n 1, 1) := by decide +kernel
theorem dX9_take_70 : decode cX9_take 70 = .ok (.iinc 2 1, 3) := by decide +kernel
theorem dX9_take_73 : decode cX9_take 73 = .ok (.goto (-43), 3) := by decide +kernel
theorem dX9_take_76 : decode cX9_take 76 = .ok (.iload_n 1, 1) := by decide +kernel
theorem dX9_take_77 : decode cX9_take 77 = .ok (.ifCond .ne 6, 3) := by decide +kernel
theorem dX9_take_80 : decode cX9_take 80 = .ok (.bipush (-5), 2) := by decide +kernel
theorem dX9_take_82 : decode cX9_take 82 = .ok (.ireturn, 1) := by decide +kernel
theorem dX9_take_83 : decode cX9_take 83 = .ok (.aload_n 0, 1) := by decide +kernel
theorem dX9_take_84 : decode cX9_take 84 = .ok (.aload_n 0, 1) := by decide +kernel
theorem dX9_take_85 : decode cX9_take 85 = .ok (.getfield 177, 3) := by decide +kernel
theorem dX9_take_88 : decode cX9_take 88 = .ok (.invokevirtual 239, 3) := by decide +kernel
theorem dX9_take_91 : decode cX9_take 91 = .ok (.istore_n 2, 1) := by decide +kernel
theorem dX9_take_92 : decode cX9_take 92 = .ok (.iconst 0, 1) := by decide +kernel
theorem dX9_take_93 : decode cX9_take 93 = .ok (.istore_n 3, 1) := by decide +kernel
theorem dX9_take_94 : decode cX9_take 94 = .ok (.iload_n 3, 1) := by decide +kernel
theorem dX9_take_95 : decode cX9_take 95 = .ok (.aload_n 0, 1) := by decide +kernel
theorem dX9_take_96 : decode cX9_take 96 = .ok (.getfield 177, 3) := by decide +kernel
theorem dX9_take_99 : decode cX9_take 99 = .ok (.if_icmp .gt 33, 3) := by decide +kernel
theorem dX9_take_102 : decode cX9_take 102 = .ok (.aload_n 0, 1) := by decide +kernel
theorem dX9_take_103 : decode cX9_take 103 = .ok (.getfield 30, 3) := by decide +kernel
theorem dX9_take_106 : decode cX9_take 106 = .ok (.iload_n 3, 1) := by decide +kernel
theorem dX9_take_107 : decode cX9_take 107 = .ok (.aload_n 0, 1) := by decide +kernel
theorem dX9_take_108 : decode cX9_take 108 = .ok (.getfield 51, 3) := by decide +kernel
theorem dX9_take_111 : decode cX9_take 111 = .ok (.iload_n 3, 1) := by decide +kernel
theorem dX9_take_112 : decode cX9_take 112 = .ok (.iaload, 1) := by decide +kernel
theorem dX9_take_113 : decode cX9_take 113 = .ok (.iastore, 1) := by decide +kernel
theorem dX9_take_114 : decode cX9_take 114 = .ok (.aload_n 0, 1) := by decide +kernel
theorem dX9_take_115 : decode cX9_take 115 = .ok (.getfield 33, 3) := by decide +kernel
theorem dX9_take_118 : decode cX9_take 118 = .ok (.iload_n 3, 1) := by decide +kernel
theorem dX9_take_119 : decode cX9_take 119 = .ok (.aload_n 0, 1) := by decide +kernel
theorem dX9_take_120 : decode cX9_take 120 = .ok (.getfield 45, 3) := by decide +kernel
theorem dX9_take_123 : decode cX9_take 123 = .ok (.iload_n 3, 1) := by decide +kernel
theorem dX9_take_124 : decode cX9_take 124 = .ok (.iaload, 1) := by decide +kernel
theorem dX9_take_125 : decode cX9_take 125 = .ok (.iastore, 1) := by decide +kernel
theorem dX9_take_126 : decode cX9_take 126 = .ok (.iinc 3 1, 3) := by decide +kernel
theorem dX9_take_129 : decode cX9_take 129 = .ok (.goto (-35), 3) := by decide +kernel
theorem dX9_take_132 : decode cX9_take 132 = .ok (.aload_n 0, 1) := by decide +kernel
theorem dX9_take_133 : decode cX9_take 133 = .ok (.getfield 177, 3) := by decide +kernel
theorem dX9_take_136 : decode cX9_take 136 = .ok (.ireturn, 1) := by decide +kernel
theorem dX9_a_0 : decode cX9_a 0 = .ok (.aload_n 0, 1) := by decide +kernel
theorem dX9_a_1 : decode cX9_a 1 = .ok (.getfield 30, 3) := by decide +kernel
theorem dX9_a_4 : decode cX9_a 4 = .ok (.iconst 0, 1) := by decide +kernel
theorem dX9_a_5 : decode cX9_a 5 = .ok (.iaload, 1) := by decide +kernel
theorem dX9_a_6 : decode cX9_a 6 = .ok (.aload_n 0, 1) := by decide +kernel
theorem dX9_a_7 : decode cX9_a 7 = .ok (.getfield 30, 3) := by decide +kernel
theorem dX9_a_10 : decode cX9_a 10 = .ok (.iload_n 1, 1) := by decide +kernel
theorem dX9_a_11 : decode cX9_a 11 = .ok (.iaload, 1) := by decide +kernel
theorem dX9_a_12 : decode cX9_a 12 = .ok (.isub, 1) := by decide +kernel
theorem dX9_a_13 : decode cX9_a 13 = .ok (.aload_n 0, 1) := by decide +kernel
theorem dX9_a_14 : decode cX9_a 14 = .ok (.getfield 33, 3) := by decide +kernel
theorem dX9_a_17 : decode cX9_a 17 = .ok (.iload_n 1, 1) := by decide +kernel
theorem dX9_a_18 : decode cX9_a 18 = .ok (.iaload, 1) := by decide +kernel
theorem dX9_a_19 : decode cX9_a 19 = .ok (.isub, 1) := by decide +kernel
theorem dX9_a_20 : decode cX9_a 20 = .ok (.ireturn, 1) := by decide +kernel
theorem dX9_firstLaws_0 : decode cX9_firstLaws 0 = .ok (.aload_n 0, 1) := by decide +kernel
theorem dX9_firstLaws_1 : decode cX9_firstLaws 1 = .ok (.getfield 33, 3) := by decide +kernel
theorem dX9_firstLaws_4 : decode cX9_firstLaws 4 = .ok (.iconst 1, 1) := by decide +kernel
theorem dX9_firstLaws_5 : decode cX9_firstLaws 5 = .ok (.iaload, 1) := by decide +kernel
theorem dX9_firstLaws_6 : decode cX9_firstLaws 6 = .ok (.iconst 1, 1) := by decide +kernel
theorem dX9_firstLaws_7 : decode cX9_firstLaws 7 = .ok (.if_icmp .ne 7, 3) := by decide +kernel
theorem dX9_firstLaws_10 : decode cX9_firstLaws 10 = .ok (.iconst 1, 1) := by decide +kernel
theorem dX9_firstLaws_11 : decode cX9_firstLaws 11 = .ok (.goto 4, 3) := by decide +kernel
theorem dX9_firstLaws_14 : decode cX9_firstLaws 14 = .ok (.iconst 0, 1) := by decide +kernel
theorem dX9_firstLaws_15 : decode cX9_firstLaws 15 = .ok (.istore_n 1, 1) := by decide +kernel
theorem dX9_firstLaws_16 : decode cX9_firstLaws 16 = .ok (.iconst 1, 1) := by decide +kernel
theorem dX9_firstLaws_17 : decode cX9_firstLaws 17 = .ok (.istore_n 2, 1) := by decide +kernel
theorem dX9_firstLaws_18 : decode cX9_firstLaws 18 = .ok (.iconst 1, 1) := by decide +kernel
theorem dX9_firstLaws_19 : decode cX9_firstLaws 19 = .ok (.istore_n 3, 1) := by decide +kernel
theorem dX9_firstLaws_20 : decode cX9_firstLaws 20 = .ok (.iconst 0, 1) := by decide +kernel
theorem dX9_firstLaws_21 : decode cX9_firstLaws 21 = .ok (.istore 4, 2) := by decide +kernel
theorem dX9_firstLaws_23 : decode cX9_firstLaws 23 = .ok (.iload 4, 2) := by decide +kernel
theorem dX9_firstLaws_25 : decode cX9_firstLaws 25 = .ok (.aload_n 0, 1) := by decide +kernel
theorem dX9_firstLaws_26 : decode cX9_firstLaws 26 = .ok (.getfield 26, 3) := by decide +kernel
theorem dX9_firstLaws_29 : decode cX9_firstLaws 29 = .ok (.if_icmp .gt 147, 3) := by decide +kernel
theorem dX9_firstLaws_32 : decode cX9_firstLaws 32 = .ok (.iload_n 1, 1) := by decide +kernel
theorem dX9_firstLaws_33 : decode cX9_firstLaws 33 = .ok (.ifCond .eq 43, 3) := by decide +kernel
theorem dX9_firstLaws_36 : decode cX9_firstLaws 36 = .ok (.iload 4, 2) := by decide +kernel
theorem dX9_firstLaws_38 : decode cX9_firstLaws 38 = .ok (.aload_n 0, 1) := by decide +kernel
theorem dX9_firstLaws_39 : decode cX9_firstLaws 39 = .ok (.getfield 26, 3) := by decide +kernel
theorem dX9_firstLaws_42 : decode cX9_firstLaws 42 = .ok (.if_icmp .eq 14, 3) := by decide +kernel
theorem dX9_firstLaws_45 : decode cX9_firstLaws 45 = .ok (.aload_n 0, 1) := by decide +kernel
theorem dX9_firstLaws_46 : decode cX9_firstLaws 46 = .ok (.getfield 30, 3) := by decide +kernel
theorem dX9_firstLaws_49 : decode cX9_firstLaws 49 = .ok (.iload 4, 2) := by decide +kernel
theorem dX9_firstLaws_51 : decode cX9_firstLaws 51 = .ok (.iaload, 1) := by decide +kernel
theorem dX9_firstLaws_52 : decode cX9_firstLaws 52 = .ok (.iconst 1, 1) := by decide +kernel
theorem dX9_firstLaws_53 : decode cX9_firstLaws 53 = .ok (.if_icmp .lt 23, 3) := by decide +kernel
theorem dX9_firstLaws_56 : decode cX9_firstLaws 56 = .ok (.iload 4, 2) := by decide +kernel
theorem dX9_firstLaws_58 : decode cX9_firstLaws 58 = .ok (.ifCond .eq 14, 3) := by decide +kernel
theorem dX9_firstLaws_61 : decode cX9_firstLaws 61 = .ok (.aload_n 0, 1) := by decide +kernel
theorem dX9_firstLaws_62 : decode cX9_firstLaws 62 = .ok (.getfield 33, 3) := by decide +kernel
theorem dX9_firstLaws_65 : decode cX9_firstLaws 65 = .ok (.iload 4, 2) := by decide +kernel
theorem dX9_firstLaws_67 : decode cX9_firstLaws 67 = .ok (.iaload, 1) := by decide +kernel
theorem dX9_firstLaws_68 : decode cX9_firstLaws 68 = .ok (.iconst 1, 1) := by decide +kernel
theorem dX9_firstLaws_69 : decode cX9_firstLaws 69 = .ok (.if_icmp .lt 7, 3) := by decide +kernel
theorem dX9_firstLaws_72 : decode cX9_firstLaws 72 = .ok (.iconst 1, 1) := by decide +kernel
theorem dX9_firstLaws_73 : decode cX9_firstLaws 73 = .ok (.goto 4, 3) := by decide +kernel
theorem dX9_firstLaws_76 : decode cX9_firstLaws 76 = .ok (.iconst 0, 1) := by decide +kernel
theorem dX9_firstLaws_77 : decode cX9_firstLaws 77 = .ok (.istore_n 1, 1) := by decide +kernel
theorem dX9_firstLaws_78 : decode cX9_firstLaws 78 = .ok (.iload_n 2, 1) := by decide +kernel
theorem dX9_firstLaws_79 : decode cX9_firstLaws 79 = .ok (.ifCond .eq 16, 3) := by decide +kernel
theorem dX9_firstLaws_82 : decode cX9_firstLaws 82 = .ok (.aload_n 0, 1) := by decide +kernel
theorem dX9_firstLaws_83 : decode cX9_firstLaws 83 = .ok (.iload 4, 2) := by decide +kernel
theorem dX9_firstLaws_85 : decode cX9_firstLaws 85 = .ok (.invokevirtual 242, 3) := by decide +kernel
theorem dX9_firstLaws_88 : decode cX9_firstLaws 88 = .ok (.ifCond .lt 7, 3) := by decide +kernel
theorem dX9_firstLaws_91 : decode cX9_firstLaws 91 = .ok (.iconst 1, 1) := by decide +kernel
theorem dX9_firstLaws_92 : decode cX9_firstLaws 92 = .ok (.goto 4, 3) := by decide +kernel
theorem dX9_firstLaws_95 : decode cX9_firstLaws 95 = .ok (.iconst 0, 1) := by decide +kernel
theorem dX9_firstLaws_96 : decode cX9_firstLaws 96 = .ok (.istore_n 2, 1) := by decide +kernel
theorem dX9_firstLaws_97 : decode cX9_firstLaws 97 = .ok (.iload_n 3, 1) := by decide +kernel
theorem dX9_firstLaws_98 : decode cX9_firstLaws 98 = .ok (.ifCond .eq 70, 3) := by decide +kernel
theorem dX9_firstLaws_101 : decode cX9_firstLaws 101 = .ok (.iload 4, 2) := by decide +kernel
theorem dX9_firstLaws_103 : decode cX9_firstLaws 103 = .ok (.ifCond .eq 31, 3) := by decide +kernel
theorem dX9_firstLaws_106 : decode cX9_firstLaws 106 = .ok (.iload 4, 2) := by decide +kernel
theorem dX9_firstLaws_108 : decode cX9_firstLaws 108 = .ok (.aload_n 0, 1) := by decide +kernel
theorem dX9_firstLaws_109 : decode cX9_firstLaws 109 = .ok (.getfield 26, 3) := by decide +kernel
theorem dX9_firstLaws_112 : decode cX9_firstLaws 112 = .ok (.if_icmp .eq 22, 3) := by decide +kernel
theorem dX9_firstLaws_115 : decode cX9_firstLaws 115 = .ok (.aload_n 0, 1) := by decide +kernel
theorem dX9_firstLaws_116 : decode cX9_firstLaws 116 = .ok (.getfield 33, 3) := by decide +kernel
theorem dX9_firstLaws_119 : decode cX9_firstLaws 119 = .ok (.iload 4, 2) := by decide +kernel
theorem dX9_firstLaws_121 : decode cX9_firstLaws 121 = .ok (.iaload, 1) := by decide +kernel
theorem dX9_firstLaws_122 : decode cX9_firstLaws 122 = .ok (.aload_n 0, 1) := by decide +kernel
theorem dX9_firstLaws_123 : decode cX9_firstLaws 123 = .ok (.getfield 33, 3) := by decide +kernel
theorem dX9_firstLaws_126 : decode cX9_firstLaws 126 = .ok (.iload 4, 2) := by decide +kernel
theorem dX9_firstLaws_128 : decode cX9_firstLaws 128 = .ok (.iconst 1, 1) := by decide +kernel
theorem dX9_firstLaws_129 : decode cX9_firstLaws 129 = .ok (.iadd, 1) := by decide +kernel
theorem dX9_firstLaws_130 : decode cX9_firstLaws 130 = .ok (.iaload, 1) := by decide +kernel
theorem dX9_firstLaws_131 : decode cX9_firstLaws 131 = .ok (.if_icmp .gt 37, 3) := by decide +kernel
theorem dX9_firstLaws_134 : decode cX9_firstLaws 134 = .ok (.iload 4, 2) := by decide +kernel
theorem dX9_firstLaws_136 : decode cX9_firstLaws 136 = .ok (.iconst 1, 1) := by decide +kernel
theorem dX9_firstLaws_137 : decode cX9_firstLaws 137 = .ok (.iadd, 1) := by decide +kernel
theorem dX9_firstLaws_138 : decode cX9_firstLaws 138 = .ok (.aload_n 0, 1) := by decide +kernel
theorem dX9_firstLaws_139 : decode cX9_firstLaws 139 = .ok (.getfield 26, 3) := by decide +kernel
theorem dX9_firstLaws_142 : decode cX9_firstLaws 142 = .ok (.if_icmp .ge 22, 3) := by decide +kernel
theorem dX9_firstLaws_145 : decode cX9_firstLaws 145 = .ok (.aload_n 0, 1) := by decide +kernel
theorem dX9_firstLaws_146 : decode cX9_firstLaws 146 = .ok (.getfield 30, 3) := by decide +kernel
theorem dX9_firstLaws_149 : decode cX9_firstLaws 149 = .ok (.iload 4, 2) := by decide +kernel
theorem dX9_firstLaws_151 : decode cX9_firstLaws 151 = .ok (.iaload, 1) := by decide +kernel
theorem dX9_firstLaws_152 : decode cX9_firstLaws 152 = .ok (.aload_n 0, 1) := by decide +kernel
theorem dX9_firstLaws_153 : decode cX9_firstLaws 153 = .ok (.getfield 30, 3) := by decide +kernel
theorem dX9_firstLaws_156 : decode cX9_firstLaws 156 = .ok (.iload 4, 2) := by decide +kernel
theorem dX9_firstLaws_158 : decode cX9_firstLaws 158 = .ok (.iconst 1, 1) := by decide +kernel
theorem dX9_firstLaws_159 : decode cX9_firstLaws 159 = .ok (.iadd, 1) := by decide +kernel
theorem dX9_firstLaws_160 : decode cX9_firstLaws 160 = .ok (.iaload, 1) := by decide +kernel
theorem dX9_firstLaws_161 : decode cX9_firstLaws 161 = .ok (.if_icmp .lt 7, 3) := by decide +kernel
theorem dX9_firstLaws_164 : decode cX9_firstLaws 164 = .ok (.iconst 1, 1) := by decide +kernel
theorem dX9_firstLaws_165 : decode cX9_firstLaws 165 = .ok (.goto 4, 3) := by decide +kernel
theorem dX9_firstLaws_168 : decode cX9_firstLaws 168 = .ok (.iconst 0, 1) := by decide +kernel
theorem dX9_firstLaws_169 : decode cX9_firstLaws 169 = .ok (.istore_n 3, 1) := by decide +kernel
theorem dX9_firstLaws_170 : decode cX9_firstLaws 170 = .ok (.iinc 4 1, 3) := by decide +kernel
theorem dX9_firstLaws_173 : decode cX9_firstLaws 173 = .ok (.goto (-150), 3) := by decide +kernel
theorem dX9_firstLaws_176 : decode cX9_firstLaws 176 = .ok (.iload_n 1, 1) := by decide +kernel
theorem dX9_firstLaws_177 : decode cX9_firstLaws 177 = .ok (.ifCond .ne 5, 3) := by decide +kernel
theorem dX9_firstLaws_180 : decode cX9_firstLaws 180 = .ok (.iconst 1, 1) := by decide +kernel
theorem dX9_firstLaws_181 : decode cX9_firstLaws 181 = .ok (.ireturn, 1) := by decide +kernel
theorem dX9_firstLaws_182 : decode cX9_firstLaws 182 = .ok (.iload_n 2, 1) := by decide +kernel
theorem dX9_firstLaws_183 : decode cX9_firstLaws 183 = .ok (.ifCond .ne 5, 3) := by decide +kernel
theorem dX9_firstLaws_186 : decode cX9_firstLaws 186 = .ok (.iconst 2, 1) := by decide +kernel
theorem dX9_firstLaws_187 : decode cX9_firstLaws 187 = .ok (.ireturn, 1) := by decide +kernel
theorem dX9_firstLaws_188 : decode cX9_firstLaws 188 = .ok (.iload_n 3, 1) := by decide +kernel
theorem dX9_firstLaws_189 : decode cX9_firstLaws 189 = .ok (.ifCond .ne 5, 3) := by decide +kernel
theorem dX9_firstLaws_192 : decode cX9_firstLaws 192 = .ok (.iconst 3, 1) := by decide +kernel
theorem dX9_firstLaws_193 : decode cX9_firstLaws 193 = .ok (.ireturn, 1) := by decide +kernel
theorem dX9_firstLaws_194 : decode cX9_firstLaws 194 = .ok (.aload_n 0, 1) := by decide +kernel
theorem dX9_firstLaws_195 : decode cX9_firstLaws 195 = .ok (.getfield 57, 3) := by decide +kernel
theorem dX9_firstLaws_198 : decode cX9_firstLaws 198 = .ok (.iconst 0, 1) := by decide +kernel
theorem dX9_firstLaws_199 : decode cX9_firstLaws 199 = .ok (.lconst 1, 1) := by decide +kernel
theorem dX9_firstLaws_200 : decode cX9_firstLaws 200 = .ok (.lastore, 1) := by decide +kernel
theorem dX9_firstLaws_201 : decode cX9_firstLaws 201 = .ok (.aload_n 0, 1) := by decide +kernel
theorem dX9_firstLaws_202 : decode cX9_firstLaws 202 = .ok (.lconst 1, 1) := by decide +kernel
theorem dX9_firstLaws_203 : decode cX9_firstLaws 203 = .ok (.putfield 245, 3) := by decide +kernel
theorem dX9_firstLaws_206 : decode cX9_firstLaws 206 = .ok (.iconst 1, 1) := by decide +kernel
theorem dX9_firstLaws_207 : decode cX9_firstLaws 207 = .ok (.istore 4, 2) := by decide +kernel
theorem dX9_firstLaws_209 : decode cX9_firstLaws 209 = .ok (.iload 4, 2) := by decide +kernel
theorem dX9_firstLaws_211 : decode cX9_firstLaws 211 = .ok (.aload_n 0, 1) := by decide +kernel
theorem dX9_firstLaws_212 : decode cX9_firstLaws 212 = .ok (.getfield 26, 3) := by decide +kernel
theorem dX9_firstLaws_215 : decode cX9_firstLaws 215 = .ok (.if_icmp .gt 83, 3) := by decide +kernel
theorem dX9_firstLaws_218 : decode cX9_firstLaws 218 = .ok (.aload_n 0, 1) := by decide +kernel
theorem dX9_firstLaws_219 : decode cX9_firstLaws 219 = .ok (.getfield 57, 3) := by decide +kernel
theorem dX9_firstLaws_222 : decode cX9_firstLaws 222 = .ok (.iload 4, 2) := by decide +kernel
theorem dX9_firstLaws_224 : decode cX9_firstLaws 224 = .ok (.iconst 1, 1) := by decide +kernel
theorem dX9_firstLaws_225 : decode cX9_firstLaws 225 = .ok (.isub, 1) := by decide +kernel
theorem dX9_firstLaws_226 : decode cX9_firstLaws 226 = .ok (.laload, 1) := by decide +kernel
theorem dX9_firstLaws_227 : decode cX9_firstLaws 227 = .ok (.aload_n 0, 1) := by decide +kernel
theorem dX9_firstLaws_228 : decode cX9_firstLaws 228 = .ok (.getfield 30, 3) := by decide +kernel
theorem dX9_firstLaws_231 : decode cX9_firstLaws 231 = .ok (.iload 4, 2) := by decide +kernel
theorem dX9_firstLaws_233 : decode cX9_firstLaws 233 = .ok (.iconst 1, 1) := by decide +kernel
theorem dX9_firstLaws_234 : decode cX9_firstLaws 234 = .ok (.isub, 1) := by decide +kernel
theorem dX9_firstLaws_235 : decode cX9_firstLaws 235 = .ok (.iaload, 1) := by decide +kernel
theorem dX9_firstLaws_236 : decode cX9_firstLaws 236 = .ok (.i2l, 1) := by decide +kernel
theorem dX9_firstLaws_237 : decode cX9_firstLaws 237 = .ok (.lmul, 1) := by decide +kernel
theorem dX9_firstLaws_238 : decode cX9_firstLaws 238 = .ok (.lstore 5, 2) := by decide +kernel
theorem dX9_firstLaws_240 : decode cX9_firstLaws 240 = .ok (.lload 5, 2) := by decide +kernel
theorem dX9_firstLaws_242 : decode cX9_firstLaws 242 = .ok (.aload_n 0, 1) := by decide +kernel
theorem dX9_firstLaws_243 : decode cX9_firstLaws 243 = .ok (.getfield 33, 3) := by decide +kernel
theorem dX9_firstLaws_246 : decode cX9_firstLaws 246 = .ok (.iload 4, 2) := by decide +kernel
theorem dX9_firstLaws_248 : decode cX9_firstLaws 248 = .ok (.iaload, 1) := by decide +kernel
theorem dX9_firstLaws_249 : decode cX9_firstLaws 249 = .ok (.i2l, 1) := by decide +kernel
theorem dX9_firstLaws_250 : decode cX9_firstLaws 250 = .ok (.lrem, 1) := by decide +kernel
theorem dX9_firstLaws_251 : decode cX9_firstLaws 251 = .ok (.lconst 0, 1) := by decide +kernel
theorem dX9_firstLaws_252 : decode cX9_firstLaws 252 = .ok (.lcmp, 1) := by decide +kernel
theorem dX9_firstLaws_253 : decode cX9_firstLaws 253 = .ok (.ifCond .eq 5, 3) := by decide +kernel
theorem dX9_firstLaws_256 : decode cX9_firstLaws 256 = .ok (.iconst 4, 1) := by decide +kernel
theorem dX9_firstLaws_257 : decode cX9_firstLaws 257 = .ok (.ireturn, 1) := by decide +kernel
theorem dX9_firstLaws_258 : decode cX9_firstLaws 258 = .ok (.aload_n 0, 1) := by decide +kernel
theorem dX9_firstLaws_259 : decode cX9_firstLaws 259 = .ok (.getfield 57, 3) := by decide +kernel
theorem dX9_firstLaws_262 : decode cX9_firstLaws 262 = .ok (.iload 4, 2) := by decide +kernel
theorem dX9_firstLaws_264 : decode cX9_firstLaws 264 = .ok (.lload 5, 2) := by decide +kernel
theorem dX9_firstLaws_266 : decode cX9_firstLaws 266 = .ok (.aload_n 0, 1) := by decide +kernel
theorem dX9_firstLaws_267 : decode cX9_firstLaws 267 = .ok (.getfield 33, 3) := by decide +kernel
theorem dX9_firstLaws_270 : decode cX9_firstLaws 270 = .ok (.iload 4, 2) := by decide +kernel
theorem dX9_firstLaws_272 : decode cX9_firstLaws 272 = .ok (.iaload, 1) := by decide +kernel
theorem dX9_firstLaws_273 : decode cX9_firstLaws 273 = .ok (.i2l, 1) := by decide +kernel
theorem dX9_firstLaws_274 : decode cX9_firstLaws 274 = .ok (.ldiv, 1) := by decide +kernel
theorem dX9_firstLaws_275 : decode cX9_firstLaws 275 = .ok (.lastore, 1) := by decide +kernel
theorem dX9_firstLaws_276 : decode cX9_firstLaws 276 = .ok (.aload_n 0, 1) := by decide +kernel
theorem dX9_firstLaws_277 : decode cX9_firstLaws 277 = .ok (.dup, 1) := by decide +kernel
theorem dX9_firstLaws_278 : decode cX9_firstLaws 278 = .ok (.getfield 245, 3) := by decide +kernel
theorem dX9_firstLaws_281 : decode cX9_firstLaws 281 = .ok (.aload_n 0, 1) := by decide +kernel
theorem dX9_firstLaws_282 : decode cX9_firstLaws 282 = .ok (.getfield 57, 3) := by decide +kernel
theorem dX9_firstLaws_285 : decode cX9_firstLaws 285 = .ok (.iload 4, 2) := by decide +kernel
theorem dX9_firstLaws_287 : decode cX9_firstLaws 287 = .ok (.laload, 1) := by decide +kernel
theorem dX9_firstLaws_288 : decode cX9_firstLaws 288 = .ok (.ladd, 1) := by decide +kernel
theorem dX9_firstLaws_289 : decode cX9_firstLaws 289 = .ok (.putfield 245, 3) := by decide +kernel
theorem dX9_firstLaws_292 : decode cX9_firstLaws 292 = .ok (.iinc 4 1, 3) := by decide +kernel
theorem dX9_firstLaws_295 : decode cX9_firstLaws 295 = .ok (.goto (-86), 3) := by decide +kernel
theorem dX9_firstLaws_298 : decode cX9_firstLaws 298 = .ok (.aload_n 0, 1) := by decide +kernel
theorem dX9_firstLaws_299 : decode cX9_firstLaws 299 = .ok (.getfield 245, 3) := by decide +kernel
theorem dX9_firstLaws_302 : decode cX9_firstLaws 302 = .ok (.ldc2_w 249, 3) := by decide +kernel
theorem dX9_firstLaws_305 : decode cX9_firstLaws 305 = .ok (.lcmp, 1) := by decide +kernel
theorem dX9_firstLaws_306 : decode cX9_firstLaws 306 = .ok (.ifCond .le 7, 3) := by decide +kernel
theorem dX9_firstLaws_309 : decode cX9_firstLaws 309 = .ok (.iconst 4, 1) := by decide +kernel
theorem dX9_firstLaws_310 : decode cX9_firstLaws 310 = .ok (.goto 4, 3) := by decide +kernel
theorem dX9_firstLaws_313 : decode cX9_firstLaws 313 = .ok (.iconst 0, 1) := by decide +kernel
theorem dX9_firstLaws_314 : decode cX9_firstLaws 314 = .ok (.ireturn, 1) := by decide +kernel
theorem dX9_areHalves_0 : decode cX9_areHalves 0 = .ok (.aload_n 0, 1) := by decide +kernel
theorem dX9_areHalves_1 : decode cX9_areHalves 1 = .ok (.getfield 30, 3) := by decide +kernel
theorem dX9_areHalves_4 : decode cX9_areHalves 4 = .ok (.iconst 0, 1) := by decide +kernel
theorem dX9_areHalves_5 : decode cX9_areHalves 5 = .ok (.iaload, 1) := by decide +kernel
theorem dX9_areHalves_6 : decode cX9_areHalves 6 = .ok (.i2l, 1) := by decide +kernel
theorem dX9_areHalves_7 : decode cX9_areHalves 7 = .ok (.aload_n 0, 1) := by decide +kernel
theorem dX9_areHalves_8 : decode cX9_areHalves 8 = .ok (.getfield 245, 3) := by decide +kernel
theorem dX9_areHalves_11 : decode cX9_areHalves 11 = .ok (.lmul, 1) := by decide +kernel
theorem dX9_areHalves_12 : decode cX9_areHalves 12 = .ok (.ldc2_w 123, 3) := by decide +kernel
theorem dX9_areHalves_15 : decode cX9_areHalves 15 = .ok (.lrem, 1) := by decide +kernel
theorem dX9_areHalves_16 : decode cX9_areHalves 16 = .ok (.lconst 0, 1) := by decide +kernel
theorem dX9_areHalves_17 : decode cX9_areHalves 17 = .ok (.lcmp, 1) := by decide +kernel
theorem dX9_areHalves_18 : decode cX9_areHalves 18 = .ok (.ifCond .ne 7, 3) := by decide +kernel
theorem dX9_areHalves_21 : decode cX9_areHalves 21 = .ok (.iconst 1, 1) := by decide +kernel
theorem dX9_areHalves_22 : decode cX9_areHalves 22 = .ok (.goto 4, 3) := by decide +kernel
theorem dX9_areHalves_25 : decode cX9_areHalves 25 = .ok (.iconst 0, 1) := by decide +kernel
theorem dX9_areHalves_26 : decode cX9_areHalves 26 = .ok (.istore_n 1, 1) := by decide +kernel
theorem dX9_areHalves_27 : decode cX9_areHalves 27 = .ok (.iconst 0, 1) := by decide +kernel
theorem dX9_areHalves_28 : decode cX9_areHalves 28 = .ok (.istore_n 2, 1) := by decide +kernel
theorem dX9_areHalves_29 : decode cX9_areHalves 29 = .ok (.iload_n 2, 1) := by decide +kernel
theorem dX9_areHalves_30 : decode cX9_areHalves 30 = .ok (.aload_n 0, 1) := by decide +kernel
theorem dX9_areHalves_31 : decode cX9_areHalves 31 = .ok (.getfield 26, 3) := by decide +kernel
theorem dX9_areHalves_34 : decode cX9_areHalves 34 = .ok (.if_icmp .gt 41, 3) := by decide +kernel
theorem dX9_areHalves_37 : decode cX9_areHalves 37 = .ok (.iload_n 1, 1) := by decide +kernel
theorem dX9_areHalves_38 : decode cX9_areHalves 38 = .ok (.ifCond .eq 29, 3) := by decide +kernel
theorem dX9_areHalves_41 : decode cX9_areHalves 41 = .ok (.aload_n 0, 1) := by decide +kernel
theorem dX9_areHalves_42 : decode cX9_areHalves 42 = .ok (.getfield 57, 3) := by decide +kernel
theorem dX9_areHalves_45 : decode cX9_areHalves 45 = .ok (.iload_n 2, 1) := by decide +kernel
theorem dX9_areHalves_46 : decode cX9_areHalves 46 = .ok (.laload, 1) := by decide +kernel
theorem dX9_areHalves_47 : decode cX9_areHalves 47 = .ok (.aload_n 0, 1) := by decide +kernel
theorem dX9_areHalves_48 : decode cX9_areHalves 48 = .ok (.iload_n 2, 1) := by decide +kernel
theorem dX9_areHalves_49 : decode cX9_areHalves 49 = .ok (.invokevirtual 242, 3) := by decide +kernel
theorem dX9_areHalves_52 : decode cX9_areHalves 52 = .ok (.i2l, 1) := by decide +kernel
theorem dX9_areHalves_53 : decode cX9_areHalves 53 = .ok (.lmul, 1) := by decide +kernel
theorem dX9_areHalves_54 : decode cX9_areHalves 54 = .ok (.ldc2_w 123, 3) := by decide +kernel
theorem dX9_areHalves_57 : decode cX9_areHalves 57 = .ok (.lrem, 1) := by decide +kernel
theorem dX9_areHalves_58 : decode cX9_areHalves 58 = .ok (.lconst 0, 1) := by decide +kernel
theorem dX9_areHalves_59 : decode cX9_areHalves 59 = .ok (.lcmp, 1) := by decide +kernel
theorem dX9_areHalves_60 : decode cX9_areHalves 60 = .ok (.ifCond .ne 7, 3) := by decide +kernel
theorem dX9_areHalves_63 : decode cX9_areHalves 63 = .ok (.iconst 1, 1) := by decide +kernel
theorem dX9_areHalves_64 : decode cX9_areHalves 64 = .ok (.goto 4, 3) := by decide +kernel
theorem dX9_areHalves_67 : decode cX9_areHalves 67 = .ok (.iconst 0, 1) := by decide +kernel
theorem dX9_areHalves_68 : decode cX9_areHalves 68 = .ok (.istore_n 1, 1) := by decide +kernel
theorem dX9_areHalves_69 : decode cX9_areHalves 69 = .ok (.iinc 2 1, 3) := by decide +kernel
theorem dX9_areHalves_72 : decode cX9_areHalves 72 = .ok (.goto (-43), 3) := by decide +kernel
theorem dX9_areHalves_75 : decode cX9_areHalves 75 = .ok (.iload_n 1, 1) := by decide +kernel
theorem dX9_areHalves_76 : decode cX9_areHalves 76 = .ok (.ireturn, 1) := by decide +kernel
theorem dX9_thirdAt_0 : decode cX9_thirdAt 0 = .ok (.iload_n 3, 1) := by decide +kernel
theorem dX9_thirdAt_1 : decode cX9_thirdAt 1 = .ok (.ifCond .lt 11, 3) := by decide +kernel
theorem dX9_thirdAt_4 : decode cX9_thirdAt 4 = .ok (.iload_n 3, 1) := by decide +kernel
theorem dX9_thirdAt_5 : decode cX9_thirdAt 5 = .ok (.aload_n 0, 1) := by decide +kernel
theorem dX9_thirdAt_6 : decode cX9_thirdAt 6 = .ok (.getfield 26, 3) := by decide +kernel
theorem dX9_thirdAt_9 : decode cX9_thirdAt 9 = .ok (.if_icmp .le 7, 3) := by decide +kernel
theorem dX9_thirdAt_12 : decode cX9_thirdAt 12 = .ok (.lconst 0, 1) := by decide +kernel
theorem dX9_thirdAt_13 : decode cX9_thirdAt 13 = .ok (.goto 19, 3) := by decide +kernel
theorem dX9_thirdAt_16 : decode cX9_thirdAt 16 = .ok (.aload_n 0, 1) := by decide +kernel
theorem dX9_thirdAt_17 : decode cX9_thirdAt 17 = .ok (.getfield 61, 3) := by decide +kernel
theorem dX9_thirdAt_20 : decode cX9_thirdAt 20 = .ok (.bipush 36, 2) := by decide +kernel
theorem dX9_thirdAt_22 : decode cX9_thirdAt 22 = .ok (.iload_n 1, 1) := by decide +kernel
theorem dX9_thirdAt_23 : decode cX9_thirdAt 23 = .ok (.imul, 1) := by decide +kernel
theorem dX9_thirdAt_24 : decode cX9_thirdAt 24 = .ok (.bipush 6, 2) := by decide +kernel
theorem dX9_thirdAt_26 : decode cX9_thirdAt 26 = .ok (.iload_n 2, 1) := by decide +kernel
theorem dX9_thirdAt_27 : decode cX9_thirdAt 27 = .ok (.imul, 1) := by decide +kernel
theorem dX9_thirdAt_28 : decode cX9_thirdAt 28 = .ok (.iadd, 1) := by decide +kernel
theorem dX9_thirdAt_29 : decode cX9_thirdAt 29 = .ok (.iload_n 3, 1) := by decide +kernel
theorem dX9_thirdAt_30 : decode cX9_thirdAt 30 = .ok (.iadd, 1) := by decide +kernel
theorem dX9_thirdAt_31 : decode cX9_thirdAt 31 = .ok (.laload, 1) := by decide +kernel
theorem dX9_thirdAt_32 : decode cX9_thirdAt 32 = .ok (.lreturn, 1) := by decide +kernel
theorem dX9_findThirds_0 : decode cX9_findThirds 0 = .ok (.iconst 0, 1) := by decide +kernel
theorem dX9_findThirds_1 : decode cX9_findThirds 1 = .ok (.istore_n 1, 1) := by decide +kernel
theorem dX9_findThirds_2 : decode cX9_findThirds 2 = .ok (.iload_n 1, 1) := by decide +kernel
theorem dX9_findThirds_3 : decode cX9_findThirds 3 = .ok (.aload_n 0, 1) := by decide +kernel
theorem dX9_findThirds_4 : decode cX9_findThirds 4 = .ok (.getfield 26, 3) := by decide +kernel
theorem dX9_findThirds_7 : decode cX9_findThirds 7 = .ok (.if_icmp .gt 109, 3) := by decide +kernel
theorem dX9_findThirds_10 : decode cX9_findThirds 10 = .ok (.iconst 0, 1) := by decide +kernel
theorem dX9_findThirds_11 : decode cX9_findThirds 11 = .ok (.istore_n 2, 1) := by decide +kernel
theorem dX9_findThirds_12 : decode cX9_findThirds 12 = .ok (.iload_n 2, 1) := by decide +kernel
theorem dX9_findThirds_13 : decode cX9_findThirds 13 = .ok (.aload_n 0, 1) := by decide +kernel
theorem dX9_findThirds_14 : decode cX9_findThirds 14 = .ok (.getfield 26, 3) := by decide +kernel
theorem dX9_findThirds_17 : decode cX9_findThirds 17 = .ok (.if_icmp .gt 93, 3) := by decide +kernel
theorem dX9_findThirds_20 : decode cX9_findThirds 20 = .ok (.aload_n 0, 1) := by decide +kernel
theorem dX9_findThirds_21 : decode cX9_findThirds 21 = .ok (.getfield 61, 3) := by decide +kernel
theorem dX9_findThirds_24 : decode cX9_findThirds 24 = .ok (.bipush 36, 2) := by decide +kernel
theorem dX9_findThirds_26 : decode cX9_findThirds 26 = .ok (.iload_n 1, 1) := by decide +kernel
theorem dX9_findThirds_27 : decode cX9_findThirds 27 = .ok (.imul, 1) := by decide +kernel
theorem dX9_findThirds_28 : decode cX9_findThirds 28 = .ok (.iload_n 2, 1) := by decide +kernel
theorem dX9_findThirds_29 : decode cX9_findThirds 29 = .ok (.iadd, 1) := by decide +kernel
theorem dX9_findThirds_30 : decode cX9_findThirds 30 = .ok (.iload_n 1, 1) := by decide +kernel
theorem dX9_findThirds_31 : decode cX9_findThirds 31 = .ok (.iload_n 2, 1) := by decide +kernel
theorem dX9_findThirds_32 : decode cX9_findThirds 32 = .ok (.if_icmp .ne 7, 3) := by decide +kernel
theorem dX9_findThirds_35 : decode cX9_findThirds 35 = .ok (.lconst 1, 1) := by decide +kernel
theorem dX9_findThirds_36 : decode cX9_findThirds 36 = .ok (.goto 4, 3) := by decide +kernel
theorem dX9_findThirds_39 : decode cX9_findThirds 39 = .ok (.lconst 0, 1) := by decide +kernel
theorem dX9_findThirds_40 : decode cX9_findThirds 40 = .ok (.lastore, 1) := by decide +kernel
theorem dX9_findThirds_41 : decode cX9_findThirds 41 = .ok (.aload_n 0, 1) := by decide +kernel
theorem dX9_findThirds_42 : decode cX9_findThirds 42 = .ok (.getfield 61, 3) := by decide +kernel
theorem dX9_findThirds_45 : decode cX9_findThirds 45 = .ok (.bipush 36, 2) := by decide +kernel
theorem dX9_findThirds_47 : decode cX9_findThirds 47 = .ok (.iload_n 1, 1) := by decide +kernel
theorem dX9_findThirds_48 : decode cX9_findThirds 48 = .ok (.imul, 1) := by decide +kernel
theorem dX9_findThirds_49 : decode cX9_findThirds 49 = .ok (.bipush 6, 2) := by decide +kernel
theorem dX9_findThirds_51 : decode cX9_findThirds 51 = .ok (.iadd, 1) := by decide +kernel
theorem dX9_findThirds_52 : decode cX9_findThirds 52 = .ok (.iload_n 2, 1) := by decide +kernel
theorem dX9_findThirds_53 : decode cX9_findThirds 53 = .ok (.iadd, 1) := by decide +kernel
theorem dX9_findThirds_54 : decode cX9_findThirds 54 = .ok (.iload_n 2, 1) := by decide +kernel
theorem dX9_findThirds_55 : decode cX9_findThirds 55 = .ok (.iload_n 1, 1) := by decide +kernel
theorem dX9_findThirds_56 : decode cX9_findThirds 56 = .ok (.iconst 1, 1) := by decide +kernel
theorem dX9_findThirds_57 : decode cX9_findThirds 57 = .ok (.isub, 1) := by decide +kernel
theorem dX9_findThirds_58 : decode cX9_findThirds 58 = .ok (.if_icmp .ne 13, 3) := by decide +kernel
theorem dX9_findThirds_61 : decode cX9_findThirds 61 = .ok (.aload_n 0, 1) := by decide +kernel
theorem dX9_findThirds_62 : decode cX9_findThirds 62 = .ok (.getfield 33, 3) := by decide +kernel
theorem dX9_findThirds_65 : decode cX9_findThirds 65 = .ok (.iload_n 1, 1) := by decide +kernel
theorem dX9_findThirds_66 : decode cX9_findThirds 66 = .ok (.iaload, 1) := by decide +kernel
theorem dX9_findThirds_67 : decode cX9_findThirds 67 = .ok (.i2l, 1) := by decide +kernel
theorem dX9_findThirds_68 : decode cX9_findThirds 68 = .ok (.goto 35, 3) := by decide +kernel
theorem dX9_findThirds_71 : decode cX9_findThirds 71 = .ok (.iload_n 2, 1) := by decide +kernel
theorem dX9_findThirds_72 : decode cX9_findThirds 72 = .ok (.iload_n 1, 1) := by decide +kernel
theorem dX9_findThirds_73 : decode cX9_findThirds 73 = .ok (.if_icmp .ne 12, 3) := by decide +kernel
theorem dX9_findThirds_76 : decode cX9_findThirds 76 = .ok (.aload_n 0, 1) := by decide +kernel
theorem dX9_findThirds_77 : decode cX9_findThirds 77 = .ok (.iload_n 1, 1) := by decide +kernel
theorem dX9_findThirds_78 : decode cX9_findThirds 78 = .ok (.invokevirtual 242, 3) := by decide +kernel
theorem dX9_findThirds_81 : decode cX9_findThirds 81 = .ok (.i2l, 1) := by decide +kernel
theorem dX9_findThirds_82 : decode cX9_findThirds 82 = .ok (.goto 21, 3) := by decide +kernel
theorem dX9_findThirds_85 : decode cX9_findThirds 85 = .ok (.iload_n 2, 1) := by decide +kernel
theorem dX9_findThirds_86 : decode cX9_findThirds 86 = .ok (.iload_n 1, 1) := by decide +kernel
theorem dX9_findThirds_87 : decode cX9_findThirds 87 = .ok (.iconst 1, 1) := by decide +kernel
theorem dX9_findThirds_88 : decode cX9_findThirds 88 = .ok (.iadd, 1) := by decide +kernel
theorem dX9_findThirds_89 : decode cX9_findThirds 89 = .ok (.if_icmp .ne 13, 3) := by decide +kernel
theorem dX9_findThirds_92 : decode cX9_findThirds 92 = .ok (.aload_n 0, 1) := by decide +kernel
theorem dX9_findThirds_93 : decode cX9_findThirds 93 = .ok (.getfield 30, 3) := by decide +kernel
theorem dX9_findThirds_96 : decode cX9_findThirds 96 = .ok (.iload_n 1, 1) := by decide +kernel
theorem dX9_findThirds_97 : decode cX9_findThirds 97 = .ok (.iaload, 1) := by decide +kernel
theorem dX9_findThirds_98 : decode cX9_findThirds 98 = .ok (.i2l, 1) := by decide +kernel
theorem dX9_findThirds_99 : decode cX9_findThirds 99 = .ok (.goto 4, 3) := by decide +kernel
theorem dX9_findThirds_102 : decode cX9_findThirds 102 = .ok (.lconst 0, 1) := by decide +kernel
theorem dX9_findThirds_103 : decode cX9_findThirds 103 = .ok (.lastore, 1) := by decide +kernel
theorem dX9_findThirds_104 : decode cX9_findThirds 104 = .ok (.iinc 2 1, 3) := by decide +kernel
theorem dX9_findThirds_107 : decode cX9_findThirds 107 = .ok (.goto (-95), 3) := by decide +kernel
theorem dX9_findThirds_110 : decode cX9_findThirds 110 = .ok (.iinc 1 1, 3) := by decide +kernel
theorem dX9_findThirds_113 : decode cX9_findThirds 113 = .ok (.goto (-111), 3) := by decide +kernel
theorem dX9_findThirds_116 : decode cX9_findThirds 116 = .ok (.iconst 1, 1) := by decide +kernel
theorem dX9_findThirds_117 : decode cX9_findThirds 117 = .ok (.istore_n 1, 1) := by decide +kernel
theorem dX9_findThirds_118 : decode cX9_findThirds 118 = .ok (.iload_n 1, 1) := by decide +kernel
theorem dX9_findThirds_119 : decode cX9_findThirds 119 = .ok (.aload_n 0, 1) := by decide +kernel
theorem dX9_findThirds_120 : decode cX9_findThirds 120 = .ok (.getfield 26, 3) := by decide +kernel
theorem dX9_findThirds_123 : decode cX9_findThirds 123 = .ok (.if_icmp .ge 211, 3) := by decide +kernel
theorem dX9_findThirds_126 : decode cX9_findThirds 126 = .ok (.iconst 0, 1) := by decide +kernel
theorem dX9_findThirds_127 : decode cX9_findThirds 127 = .ok (.istore_n 2, 1) := by decide +kernel
theorem dX9_findThirds_128 : decode cX9_findThirds 128 = .ok (.iload_n 2, 1) := by decide +kernel
theorem dX9_findThirds_129 : decode cX9_findThirds 129 = .ok (.aload_n 0, 1) := by decide +kernel
theorem dX9_findThirds_130 : decode cX9_findThirds 130 = .ok (.getfield 26, 3) := by decide +kernel
theorem dX9_findThirds_133 : decode cX9_findThirds 133 = .ok (.if_icmp .gt 195, 3) := by decide +kernel
theorem dX9_findThirds_136 : decode cX9_findThirds 136 = .ok (.iconst 0, 1) := by decide +kernel
theorem dX9_findThirds_137 : decode cX9_findThirds 137 = .ok (.istore_n 3, 1) := by decide +kernel
theorem dX9_findThirds_138 : decode cX9_findThirds 138 = .ok (.iload_n 3, 1) := by decide +kernel
theorem dX9_findThirds_139 : decode cX9_findThirds 139 = .ok (.aload_n 0, 1) := by decide +kernel
theorem dX9_findThirds_140 : decode cX9_findThirds 140 = .ok (.getfield 26, 3) := by decide +kernel
theorem dX9_findThirds_143 : decode cX9_findThirds 143 = .ok (.if_icmp .gt 179, 3) := by decide +kernel
theorem dX9_findThirds_146 : decode cX9_findThirds 146 = .ok (.iload_n 3, 1) := by decide +kernel
theorem dX9_findThirds_147 : decode cX9_findThirds 147 = .ok (.ifCond .le 25, 3) := by decide +kernel
theorem dX9_findThirds_150 : decode cX9_findThirds 150 = .ok (.aload_n 0, 1) := by decide +kernel
theorem dX9_findThirds_151 : decode cX9_findThirds 151 = .ok (.getfield 30, 3) := by decide +kernel
theorem dX9_findThirds_154 : decode cX9_findThirds 154 = .ok (.iload_n 3, 1) := by decide +kernel
theorem dX9_findThirds_155 : decode cX9_findThirds 155 = .ok (.iconst 1, 1) := by decide +kernel
theorem dX9_findThirds_156 : decode cX9_findThirds 156 = .ok (.isub, 1) := by decide +kernel
theorem dX9_findThirds_157 : decode cX9_findThirds 157 = .ok (.iaload, 1) := by decide +kernel
theorem dX9_findThirds_158 : decode cX9_findThirds 158 = .ok (.i2l, 1) := by decide +kernel
theorem dX9_findThirds_159 : decode cX9_findThirds 159 = .ok (.aload_n 0, 1) := by decide +kernel
theorem dX9_findThirds_160 : decode cX9_findThirds 160 = .ok (.iload_n 2, 1) := by decide +kernel
theorem dX9_findThirds_161 : decode cX9_findThirds 161 = .ok (.iload_n 1, 1) := by decide +kernel
theorem dX9_findThirds_162 : decode cX9_findThirds 162 = .ok (.iload_n 3, 1) := by decide +kernel
theorem dX9_findThirds_163 : decode cX9_findThirds 163 = .ok (.iconst 1, 1) := by decide +kernel
theorem dX9_findThirds_164 : decode cX9_findThirds 164 = .ok (.isub, 1) := by decide +kernel
theorem dX9_findThirds_165 : decode cX9_findThirds 165 = .ok (.invokevirtual 251, 3) := by decide +kernel
theorem dX9_findThirds_168 : decode cX9_findThirds 168 = .ok (.lmul, 1) := by decide +kernel
theorem dX9_findThirds_169 : decode cX9_findThirds 169 = .ok (.goto 4, 3) := by decide +kernel
theorem dX9_findThirds_172 : decode cX9_findThirds 172 = .ok (.lconst 0, 1) := by decide +kernel
theorem dX9_findThirds_173 : decode cX9_findThirds 173 = .ok (.lstore 4, 2) := by decide +kernel
theorem dX9_findThirds_175 : decode cX9_findThirds 175 = .ok (.lload 4, 2) := by decide +kernel
theorem dX9_findThirds_177 : decode cX9_findThirds 177 = .ok (.aload_n 0, 1) := by decide +kernel
theorem dX9_findThirds_178 : decode cX9_findThirds 178 = .ok (.iload_n 3, 1) := by decide +kernel
theorem dX9_findThirds_179 : decode cX9_findThirds 179 = .ok (.invokevirtual 242, 3) := by decide +kernel
theorem dX9_findThirds_182 : decode cX9_findThirds 182 = .ok (.aload_n 0, 1) := by decide +kernel
theorem dX9_findThirds_183 : decode cX9_findThirds 183 = .ok (.iload_n 1, 1) := by decide +kernel
theorem dX9_findThirds_184 : decode cX9_findThirds 184 = .ok (.invokevirtual 242, 3) := by decide +kernel
theorem dX9_findThirds_187 : decode cX9_findThirds 187 = .ok (.isub, 1) := by decide +kernel
theorem dX9_findThirds_188 : decode cX9_findThirds 188 = .ok (.i2l, 1) := by decide +kernel
theorem dX9_findThirds_189 : decode cX9_findThirds 189 = .ok (.aload_n 0, 1) := by decide +kernel
theorem dX9_findThirds_190 : decode cX9_findThirds 190 = .ok (.iload_n 2, 1) := by decide +kernel
theorem dX9_findThirds_191 : decode cX9_findThirds 191 = .ok (.iload_n 1, 1) := by decide +kernel
theorem dX9_findThirds_192 : decode cX9_findThirds 192 = .ok (.iload_n 3, 1) := by decide +kernel
theorem dX9_findThirds_193 : decode cX9_findThirds 193 = .ok (.invokevirtual 251, 3) := by decide +kernel
theorem dX9_findThirds_196 : decode cX9_findThirds 196 = .ok (.lmul, 1) := by decide +kernel
theorem dX9_findThirds_197 : decode cX9_findThirds 197 = .ok (.ladd, 1) := by decide +kernel
theorem dX9_findThirds_198 : decode cX9_findThirds 198 = .ok (.lstore 4, 2) := by decide +kernel
theorem dX9_findThirds_200 : decode cX9_findThirds 200 = .ok (.lload 4, 2) := by decide +kernel
theorem dX9_findThirds_202 : decode cX9_findThirds 202 = .ok (.iload_n 3, 1) := by decide +kernel
theorem dX9_findThirds_203 : decode cX9_findThirds 203 = .ok (.aload_n 0, 1) := by decide +kernel
theorem dX9_findThirds_204 : decode cX9_findThirds 204 = .ok (.getfield 26, 3) := by decide +kernel
theorem dX9_findThirds_207 : decode cX9_findThirds 207 = .ok (.if_icmp .ge 25, 3) := by decide +kernel
theorem dX9_findThirds_210 : decode cX9_findThirds 210 = .ok (.aload_n 0, 1) := by decide +kernel
theorem dX9_findThirds_211 : decode cX9_findThirds 211 = .ok (.getfield 33, 3) := by decide +kernel
theorem dX9_findThirds_214 : decode cX9_findThirds 214 = .ok (.iload_n 3, 1) := by decide +kernel
theorem dX9_findThirds_215 : decode cX9_findThirds 215 = .ok (.iconst 1, 1) := by decide +kernel
theorem dX9_findThirds_216 : decode cX9_findThirds 216 = .ok (.iadd, 1) := by decide +kernel
theorem dX9_findThirds_217 : decode cX9_findThirds 217 = .ok (.iaload, 1) := by decide +kernel
theorem dX9_findThirds_218 : decode cX9_findThirds 218 = .ok (.i2l, 1) := by decide +kernel
theorem dX9_findThirds_219 : decode cX9_findThirds 219 = .ok (.aload_n 0, 1) := by decide +kernel
theorem dX9_findThirds_220 : decode cX9_findThirds 220 = .ok (.iload_n 2, 1) := by decide +kernel
theorem dX9_findThirds_221 : decode cX9_findThirds 221 = .ok (.iload_n 1, 1) := by decide +kernel
theorem dX9_findThirds_222 : decode cX9_findThirds 222 = .ok (.iload_n 3, 1) := by decide +kernel
theorem dX9_findThirds_223 : decode cX9_findThirds 223 = .ok (.iconst 1, 1) := by decide +kernel
theorem dX9_findThirds_224 : decode cX9_findThirds 224 = .ok (.iadd, 1) := by decide +kernel
theorem dX9_findThirds_225 : decode cX9_findThirds 225 = .ok (.invokevirtual 251, 3) := by decide +kernel
theorem dX9_findThirds_228 : decode cX9_findThirds 228 = .ok (.lmul, 1) := by decide +kernel
theorem dX9_findThirds_229 : decode cX9_findThirds 229 = .ok (.goto 4, 3) := by decide +kernel
theorem dX9_findThirds_232 : decode cX9_findThirds 232 = .ok (.lconst 0, 1) := by decide +kernel
theorem dX9_findThirds_233 : decode cX9_findThirds 233 = .ok (.ladd, 1) := by decide +kernel
theorem dX9_findThirds_234 : decode cX9_findThirds 234 = .ok (.lstore 4, 2) := by decide +kernel
theorem dX9_findThirds_236 : decode cX9_findThirds 236 = .ok (.lload 4, 2) := by decide +kernel
theorem dX9_findThirds_238 : decode cX9_findThirds 238 = .ok (.aload_n 0, 1) := by decide +kernel
theorem dX9_findThirds_239 : decode cX9_findThirds 239 = .ok (.getfield 30, 3) := by decide +kernel
theorem dX9_findThirds_242 : decode cX9_findThirds 242 = .ok (.iload_n 1, 1) := by decide +kernel
theorem dX9_findThirds_243 : decode cX9_findThirds 243 = .ok (.iconst 1, 1) := by decide +kernel
theorem dX9_findThirds_244 : decode cX9_findThirds 244 = .ok (.isub, 1) := by decide +kernel
theorem dX9_findThirds_245 : decode cX9_findThirds 245 = .ok (.iaload, 1) := by decide +kernel
theorem dX9_findThirds_246 : decode cX9_findThirds 246 = .ok (.i2l, 1) := by decide +kernel
theorem dX9_findThirds_247 : decode cX9_findThirds 247 = .ok (.aload_n 0, 1) := by decide +kernel
theorem dX9_findThirds_248 : decode cX9_findThirds 248 = .ok (.iload_n 2, 1) := by decide +kernel
theorem dX9_findThirds_249 : decode cX9_findThirds 249 = .ok (.iload_n 1, 1) := by decide +kernel
theorem dX9_findThirds_250 : decode cX9_findThirds 250 = .ok (.iconst 1, 1) := by decide +kernel
theorem dX9_findThirds_251 : decode cX9_findThirds 251 = .ok (.isub, 1) := by decide +kernel
theorem dX9_findThirds_252 : decode cX9_findThirds 252 = .ok (.iload_n 3, 1) := by decide +kernel
theorem dX9_findThirds_253 : decode cX9_findThirds 253 = .ok (.invokevirtual 251, 3) := by decide +kernel
theorem dX9_findThirds_256 : decode cX9_findThirds 256 = .ok (.lmul, 1) := by decide +kernel
theorem dX9_findThirds_257 : decode cX9_findThirds 257 = .ok (.lsub, 1) := by decide +kernel
theorem dX9_findThirds_258 : decode cX9_findThirds 258 = .ok (.lstore 4, 2) := by decide +kernel
theorem dX9_findThirds_260 : decode cX9_findThirds 260 = .ok (.lload 4, 2) := by decide +kernel
theorem dX9_findThirds_262 : decode cX9_findThirds 262 = .ok (.lconst 0, 1) := by decide +kernel
theorem dX9_findThirds_263 : decode cX9_findThirds 263 = .ok (.lcmp, 1) := by decide +kernel
theorem dX9_findThirds_264 : decode cX9_findThirds 264 = .ok (.ifCond .lt 20, 3) := by decide +kernel
theorem dX9_findThirds_267 : decode cX9_findThirds 267 = .ok (.lload 4, 2) := by decide +kernel
theorem dX9_findThirds_269 : decode cX9_findThirds 269 = .ok (.aload_n 0, 1) := by decide +kernel
theorem dX9_findThirds_270 : decode cX9_findThirds 270 = .ok (.getfield 33, 3) := by decide +kernel
theorem dX9_findThirds_273 : decode cX9_findThirds 273 = .ok (.iload_n 1, 1) := by decide +kernel
theorem dX9_findThirds_274 : decode cX9_findThirds 274 = .ok (.iconst 1, 1) := by decide +kernel
theorem dX9_findThirds_275 : decode cX9_findThirds 275 = .ok (.iadd, 1) := by decide +kernel
theorem dX9_findThirds_276 : decode cX9_findThirds 276 = .ok (.iaload, 1) := by decide +kernel
theorem dX9_findThirds_277 : decode cX9_findThirds 277 = .ok (.i2l, 1) := by decide +kernel
theorem dX9_findThirds_278 : decode cX9_findThirds 278 = .ok (.lrem, 1) := by decide +kernel
theorem dX9_findThirds_279 : decode cX9_findThirds 279 = .ok (.lconst 0, 1) := by decide +kernel
theorem dX9_findThirds_280 : decode cX9_findThirds 280 = .ok (.lcmp, 1) := by decide +kernel
theorem dX9_findThirds_281 : decode cX9_findThirds 281 = .ok (.ifCond .eq 5, 3) := by decide +kernel
theorem dX9_findThirds_284 : decode cX9_findThirds 284 = .ok (.iconst 0, 1) := by decide +kernel
theorem dX9_findThirds_285 : decode cX9_findThirds 285 = .ok (.ireturn, 1) := by decide +kernel
theorem dX9_findThirds_286 : decode cX9_findThirds 286 = .ok (.aload_n 0, 1) := by decide +kernel
theorem dX9_findThirds_287 : decode cX9_findThirds 287 = .ok (.getfield 61, 3) := by decide +kernel
theorem dX9_findThirds_290 : decode cX9_findThirds 290 = .ok (.bipush 36, 2) := by decide +kernel
theorem dX9_findThirds_292 : decode cX9_findThirds 292 = .ok (.iload_n 2, 1) := by decide +kernel
theorem dX9_findThirds_293 : decode cX9_findThirds 293 = .ok (.imul, 1) := by decide +kernel
theorem dX9_findThirds_294 : decode cX9_findThirds 294 = .ok (.bipush 6, 2) := by decide +kernel
theorem dX9_findThirds_296 : decode cX9_findThirds 296 = .ok (.iload_n 1, 1) := by decide +kernel
theorem dX9_findThirds_297 : decode cX9_findThirds 297 = .ok (.iconst 1, 1) := by decide +kernel
theorem dX9_findThirds_298 : decode cX9_findThirds 298 = .ok (.iadd, 1) := by decide +kernel
theorem dX9_findThirds_299 : decode cX9_findThirds 299 = .ok (.imul, 1) := by decide +kernel
theorem dX9_findThirds_300 : decode cX9_findThirds 300 = .ok (.iadd, 1) := by decide +kernel
theorem dX9_findThirds_301 : decode cX9_findThirds 301 = .ok (.iload_n 3, 1) := by decide +kernel
theorem dX9_findThirds_302 : decode cX9_findThirds 302 = .ok (.iadd, 1) := by decide +kernel
theorem dX9_findThirds_303 : decode cX9_findThirds 303 = .ok (.lload 4, 2) := by decide +kernel
theorem dX9_findThirds_305 : decode cX9_findThirds 305 = .ok (.aload_n 0, 1) := by decide +kernel
theorem dX9_findThirds_306 : decode cX9_findThirds 306 = .ok (.getfield 33, 3) := by decide +kernel
theorem dX9_findThirds_309 : decode cX9_findThirds 309 = .ok (.iload_n 1, 1) := by decide +kernel
theorem dX9_findThirds_310 : decode cX9_findThirds 310 = .ok (.iconst 1, 1) := by decide +kernel
theorem dX9_findThirds_311 : decode cX9_findThirds 311 = .ok (.iadd, 1) := by decide +kernel
theorem dX9_findThirds_312 : decode cX9_findThirds 312 = .ok (.iaload, 1) := by decide +kernel
theorem dX9_findThirds_313 : decode cX9_findThirds 313 = .ok (.i2l, 1) := by decide +kernel
theorem dX9_findThirds_314 : decode cX9_findThirds 314 = .ok (.ldiv, 1) := by decide +kernel
theorem dX9_findThirds_315 : decode cX9_findThirds 315 = .ok (.lastore, 1) := by decide +kernel
theorem dX9_findThirds_316 : decode cX9_findThirds 316 = .ok (.iinc 3 1, 3) := by decide +kernel
theorem dX9_findThirds_319 : decode cX9_findThirds 319 = .ok (.goto (-181), 3) := by decide +kernel
theorem dX9_findThirds_322 : decode cX9_findThirds 322 = .ok (.iinc 2 1, 3) := by decide +kernel
theorem dX9_findThirds_325 : decode cX9_findThirds 325 = .ok (.goto (-197), 3) := by decide +kernel
theorem dX9_findThirds_328 : decode cX9_findThirds 328 = .ok (.iinc 1 1, 3) := by decide +kernel
theorem dX9_findThirds_331 : decode cX9_findThirds 331 = .ok (.goto (-213), 3) := by decide +kernel
theorem dX9_findThirds_334 : decode cX9_findThirds 334 = .ok (.iconst 1, 1) := by decide +kernel
theorem dX9_findThirds_335 : decode cX9_findThirds 335 = .ok (.ireturn, 1) := by decide +kernel
theorem dX9_isRoot_0 : decode cX9_isRoot 0 = .ok (.aload_n 0, 1) := by decide +kernel
theorem dX9_isRoot_1 : decode cX9_isRoot 1 = .ok (.getfield 64, 3) := by decide +kernel
theorem dX9_isRoot_4 : decode cX9_isRoot 4 = .ok (.iconst 0, 1) := by decide +kernel
theorem dX9_isRoot_5 : decode cX9_isRoot 5 = .ok (.lconst 1, 1) := by decide +kernel
theorem dX9_isRoot_6 : decode cX9_isRoot 6 = .ok (.lastore, 1) := by decide +kernel
theorem dX9_isRoot_7 : decode cX9_isRoot 7 = .ok (.aload_n 0, 1) := by decide +kernel
theorem dX9_isRoot_8 : decode cX9_isRoot 8 = .ok (.getfield 64, 3) := by decide +kernel
theorem dX9_isRoot_11 : decode cX9_isRoot 11 = .ok (.iconst 1, 1) := by decide +kernel
theorem dX9_isRoot_12 : decode cX9_isRoot 12 = .ok (.iload_n 1, 1) := by decide +kernel
theorem dX9_isRoot_13 : decode cX9_isRoot 13 = .ok (.i2l, 1) := by decide +kernel
theorem dX9_isRoot_14 : decode cX9_isRoot 14 = .ok (.lastore, 1) := by decide +kernel
theorem dX9_isRoot_15 : decode cX9_isRoot 15 = .ok (.iconst 1, 1) := by decide +kernel
theorem dX9_isRoot_16 : decode cX9_isRoot 16 = .ok (.istore_n 2, 1) := by decide +kernel
theorem dX9_isRoot_17 : decode cX9_isRoot 17 = .ok (.iload_n 2, 1) := by decide +kernel
theorem dX9_isRoot_18 : decode cX9_isRoot 18 = .ok (.aload_n 0, 1) := by decide +kernel
theorem dX9_isRoot_19 : decode cX9_isRoot 19 = .ok (.getfield 26, 3) := by decide +kernel
theorem dX9_isRoot_22 : decode cX9_isRoot 22 = .ok (.if_icmp .ge 59, 3) := by decide +kernel
theorem dX9_isRoot_25 : decode cX9_isRoot 25 = .ok (.aload_n 0, 1) := by decide +kernel
theorem dX9_isRoot_26 : decode cX9_isRoot 26 = .ok (.getfield 64, 3) := by decide +kernel
theorem dX9_isRoot_29 : decode cX9_isRoot 29 = .ok (.iload_n 2, 1) := by decide +kernel
theorem dX9_isRoot_30 : decode cX9_isRoot 30 = .ok (.iconst 1, 1) := by decide +kernel
theorem dX9_isRoot_31 : decode cX9_isRoot 31 = .ok (.iadd, 1) := by decide +kernel
theorem dX9_isRoot_32 : decode cX9_isRoot 32 = .ok (.iload_n 1, 1) := by decide +kernel
theorem dX9_isRoot_33 : decode cX9_isRoot 33 = .ok (.aload_n 0, 1) := by decide +kernel
theorem dX9_isRoot_34 : decode cX9_isRoot 34 = .ok (.iload_n 2, 1) := by decide +kernel
theorem dX9_isRoot_35 : decode cX9_isRoot 35 = .ok (.invokevirtual 242, 3) := by decide +kernel
theorem dX9_isRoot_38 : decode cX9_isRoot 38 = .ok (.isub, 1) := by decide +kernel
theorem dX9_isRoot_39 : decode cX9_isRoot 39 = .ok (.i2l, 1) := by decide +kernel
theorem dX9_isRoot_40 : decode cX9_isRoot 40 = .ok (.aload_n 0, 1) := by decide +kernel
theorem dX9_isRoot_41 : decode cX9_isRoot 41 = .ok (.getfield 64, 3) := by decide +kernel
theorem dX9_isRoot_44 : decode cX9_isRoot 44 = .ok (.iload_n 2, 1) := by decide +kernel
theorem dX9_isRoot_45 : decode cX9_isRoot 45 = .ok (.laload, 1) := by decide +kernel
theorem dX9_isRoot_46 : decode cX9_isRoot 46 = .ok (.lmul, 1) := by decide +kernel
theorem dX9_isRoot_47 : decode cX9_isRoot 47 = .ok (.aload_n 0, 1) := by decide +kernel
theorem dX9_isRoot_48 : decode cX9_isRoot 48 = .ok (.getfield 33, 3) := by decide +kernel
theorem dX9_isRoot_51 : decode cX9_isRoot 51 = .ok (.iload_n 2, 1) := by decide +kernel
theorem dX9_isRoot_52 : decode cX9_isRoot 52 = .ok (.iaload, 1) := by decide +kernel
theorem dX9_isRoot_53 : decode cX9_isRoot 53 = .ok (.i2l, 1) := by decide +kernel
theorem dX9_isRoot_54 : decode cX9_isRoot 54 = .ok (.aload_n 0, 1) := by decide +kernel
theorem dX9_isRoot_55 : decode cX9_isRoot 55 = .ok (.getfield 30, 3) := by decide +kernel
theorem dX9_isRoot_58 : decode cX9_isRoot 58 = .ok (.iload_n 2, 1) := by decide +kernel
theorem dX9_isRoot_59 : decode cX9_isRoot 59 = .ok (.iconst 1, 1) := by decide +kernel
theorem dX9_isRoot_60 : decode cX9_isRoot 60 = .ok (.isub, 1) := by decide +kernel
theorem dX9_isRoot_61 : decode cX9_isRoot 61 = .ok (.iaload, 1) := by decide +kernel
theorem dX9_isRoot_62 : decode cX9_isRoot 62 = .ok (.i2l, 1) := by decide +kernel
theorem dX9_isRoot_63 : decode cX9_isRoot 63 = .ok (.lmul, 1) := by decide +kernel
theorem dX9_isRoot_64 : decode cX9_isRoot 64 = .ok (.aload_n 0, 1) := by decide +kernel
theorem dX9_isRoot_65 : decode cX9_isRoot 65 = .ok (.getfield 64, 3) := by decide +kernel
theorem dX9_isRoot_68 : decode cX9_isRoot 68 = .ok (.iload_n 2, 1) := by decide +kernel
theorem dX9_isRoot_69 : decode cX9_isRoot 69 = .ok (.iconst 1, 1) := by decide +kernel
theorem dX9_isRoot_70 : decode cX9_isRoot 70 = .ok (.isub, 1) := by decide +kernel
theorem dX9_isRoot_71 : decode cX9_isRoot 71 = .ok (.laload, 1) := by decide +kernel
theorem dX9_isRoot_72 : decode cX9_isRoot 72 = .ok (.lmul, 1) := by decide +kernel
theorem dX9_isRoot_73 : decode cX9_isRoot 73 = .ok (.lsub, 1) := by decide +kernel
theorem dX9_isRoot_74 : decode cX9_isRoot 74 = .ok (.lastore, 1) := by decide +kernel
theorem dX9_isRoot_75 : decode cX9_isRoot 75 = .ok (.iinc 2 1, 3) := by decide +kernel
theorem dX9_isRoot_78 : decode cX9_isRoot 78 = .ok (.goto (-61), 3) := by decide +kernel
theorem dX9_isRoot_81 : decode cX9_isRoot 81 = .ok (.aload_n 0, 1) := by decide +kernel
theorem dX9_isRoot_82 : decode cX9_isRoot 82 = .ok (.getfield 33, 3) := by decide +kernel
theorem dX9_isRoot_85 : decode cX9_isRoot 85 = .ok (.aload_n 0, 1) := by decide +kernel
theorem dX9_isRoot_86 : decode cX9_isRoot 86 = .ok (.getfield 26, 3) := by decide +kernel
theorem dX9_isRoot_89 : decode cX9_isRoot 89 = .ok (.iaload, 1) := by decide +kernel
theorem dX9_isRoot_90 : decode cX9_isRoot 90 = .ok (.i2l, 1) := by decide +kernel
theorem dX9_isRoot_91 : decode cX9_isRoot 91 = .ok (.aload_n 0, 1) := by decide +kernel
theorem dX9_isRoot_92 : decode cX9_isRoot 92 = .ok (.getfield 30, 3) := by decide +kernel
theorem dX9_isRoot_95 : decode cX9_isRoot 95 = .ok (.aload_n 0, 1) := by decide +kernel
theorem dX9_isRoot_96 : decode cX9_isRoot 96 = .ok (.getfield 26, 3) := by decide +kernel
theorem dX9_isRoot_99 : decode cX9_isRoot 99 = .ok (.iconst 1, 1) := by decide +kernel
theorem dX9_isRoot_100 : decode cX9_isRoot 100 = .ok (.isub, 1) := by decide +kernel
theorem dX9_isRoot_101 : decode cX9_isRoot 101 = .ok (.iaload, 1) := by decide +kernel
theorem dX9_isRoot_102 : decode cX9_isRoot 102 = .ok (.i2l, 1) := by decide +kernel
theorem dX9_isRoot_103 : decode cX9_isRoot 103 = .ok (.lmul, 1) := by decide +kernel
theorem dX9_isRoot_104 : decode cX9_isRoot 104 = .ok (.aload_n 0, 1) := by decide +kernel
theorem dX9_isRoot_105 : decode cX9_isRoot 105 = .ok (.getfield 64, 3) := by decide +kernel
theorem dX9_isRoot_108 : decode cX9_isRoot 108 = .ok (.aload_n 0, 1) := by decide +kernel
theorem dX9_isRoot_109 : decode cX9_isRoot 109 = .ok (.getfield 26, 3) := by decide +kernel
theorem dX9_isRoot_112 : decode cX9_isRoot 112 = .ok (.iconst 1, 1) := by decide +kernel
theorem dX9_isRoot_113 : decode cX9_isRoot 113 = .ok (.isub, 1) := by decide +kernel
theorem dX9_isRoot_114 : decode cX9_isRoot 114 = .ok (.laload, 1) := by decide +kernel
theorem dX9_isRoot_115 : decode cX9_isRoot 115 = .ok (.lmul, 1) := by decide +kernel
theorem dX9_isRoot_116 : decode cX9_isRoot 116 = .ok (.aload_n 0, 1) := by decide +kernel
theorem dX9_isRoot_117 : decode cX9_isRoot 117 = .ok (.aload_n 0, 1) := by decide +kernel
theorem dX9_isRoot_118 : decode cX9_isRoot 118 = .ok (.getfield 26, 3) := by decide +kernel
theorem dX9_isRoot_121 : decode cX9_isRoot 121 = .ok (.invokevirtual 242, 3) := by decide +kernel
theorem dX9_isRoot_124 : decode cX9_isRoot 124 = .ok (.i2l, 1) := by decide +kernel
theorem dX9_isRoot_125 : decode cX9_isRoot 125 = .ok (.aload_n 0, 1) := by decide +kernel
theorem dX9_isRoot_126 : decode cX9_isRoot 126 = .ok (.getfield 64, 3) := by decide +kernel
theorem dX9_isRoot_129 : decode cX9_isRoot 129 = .ok (.aload_n 0, 1) := by decide +kernel
theorem dX9_isRoot_130 : decode cX9_isRoot 130 = .ok (.getfield 26, 3) := by decide +kernel
theorem dX9_isRoot_133 : decode cX9_isRoot 133 = .ok (.laload, 1) := by decide +kernel
theorem dX9_isRoot_134 : decode cX9_isRoot 134 = .ok (.lmul, 1) := by decide +kernel
theorem dX9_isRoot_135 : decode cX9_isRoot 135 = .ok (.ladd, 1) := by decide +kernel
theorem dX9_isRoot_136 : decode cX9_isRoot 136 = .ok (.iload_n 1, 1) := by decide +kernel
theorem dX9_isRoot_137 : decode cX9_isRoot 137 = .ok (.i2l, 1) := by decide +kernel
theorem dX9_isRoot_138 : decode cX9_isRoot 138 = .ok (.aload_n 0, 1) := by decide +kernel
theorem dX9_isRoot_139 : decode cX9_isRoot 139 = .ok (.getfield 64, 3) := by decide +kernel
theorem dX9_isRoot_142 : decode cX9_isRoot 142 = .ok (.aload_n 0, 1) := by decide +kernel
theorem dX9_isRoot_143 : decode cX9_isRoot 143 = .ok (.getfield 26, 3) := by decide +kernel
theorem dX9_isRoot_146 : decode cX9_isRoot 146 = .ok (.laload, 1) := by decide +kernel
theorem dX9_isRoot_147 : decode cX9_isRoot 147 = .ok (.lmul, 1) := by decide +kernel
theorem dX9_isRoot_148 : decode cX9_isRoot 148 = .ok (.lcmp, 1) := by decide +kernel
theorem dX9_isRoot_149 : decode cX9_isRoot 149 = .ok (.ifCond .ne 7, 3) := by decide +kernel
theorem dX9_isRoot_152 : decode cX9_isRoot 152 = .ok (.iconst 1, 1) := by decide +kernel
theorem dX9_isRoot_153 : decode cX9_isRoot 153 = .ok (.goto 4, 3) := by decide +kernel
theorem dX9_isRoot_156 : decode cX9_isRoot 156 = .ok (.iconst 0, 1) := by decide +kernel
theorem dX9_isRoot_157 : decode cX9_isRoot 157 = .ok (.ireturn, 1) := by decide +kernel
theorem dX9_times_0 : decode cX9_times 0 = .ok (.lconst 0, 1) := by decide +kernel
theorem dX9_times_1 : decode cX9_times 1 = .ok (.lstore_n 1, 1) := by decide +kernel
theorem dX9_times_2 : decode cX9_times 2 = .ok (.lconst 1, 1) := by decide +kernel
theorem dX9_times_3 : decode cX9_times 3 = .ok (.lstore_n 3, 1) := by decide +kernel
theorem dX9_times_4 : decode cX9_times 4 = .ok (.aload_n 0, 1) := by decide +kernel
theorem dX9_times_5 : decode cX9_times 5 = .ok (.getfield 26, 3) := by decide +kernel
theorem dX9_times_8 : decode cX9_times 8 = .ok (.istore 5, 2) := by decide +kernel
theorem dX9_times_10 : decode cX9_times 10 = .ok (.iload 5, 2) := by decide +kernel
theorem dX9_times_12 : decode cX9_times 12 = .ok (.ifCond .lt 58, 3) := by decide +kernel
theorem dX9_times_15 : decode cX9_times 15 = .ok (.aload_n 0, 1) := by decide +kernel
theorem dX9_times_16 : decode cX9_times 16 = .ok (.getfield 64, 3) := by decide +kernel
theorem dX9_times_19 : decode cX9_times 19 = .ok (.iload 5, 2) := by decide +kernel
theorem dX9_times_21 : decode cX9_times 21 = .ok (.laload, 1) := by decide +kernel
theorem dX9_times_22 : decode cX9_times 22 = .ok (.lload_n 3, 1) := by decide +kernel
theorem dX9_times_23 : decode cX9_times 23 = .ok (.lmul, 1) := by decide +kernel
theorem dX9_times_24 : decode cX9_times 24 = .ok (.lstore 6, 2) := by decide +kernel
theorem dX9_times_26 : decode cX9_times 26 = .ok (.lload_n 1, 1) := by decide +kernel
theorem dX9_times_27 : decode cX9_times 27 = .ok (.aload_n 0, 1) := by decide +kernel
theorem dX9_times_28 : decode cX9_times 28 = .ok (.getfield 57, 3) := by decide +kernel
theorem dX9_times_31 : decode cX9_times 31 = .ok (.iload 5, 2) := by decide +kernel
theorem dX9_times_33 : decode cX9_times 33 = .ok (.laload, 1) := by decide +kernel
theorem dX9_times_34 : decode cX9_times 34 = .ok (.lload 6, 2) := by decide +kernel
theorem dX9_times_36 : decode cX9_times 36 = .ok (.lmul, 1) := by decide +kernel
theorem dX9_times_37 : decode cX9_times 37 = .ok (.lload 6, 2) := by decide +kernel
theorem dX9_times_39 : decode cX9_times 39 = .ok (.lmul, 1) := by decide +kernel
theorem dX9_times_40 : decode cX9_times 40 = .ok (.ladd, 1) := by decide +kernel
theorem dX9_times_41 : decode cX9_times 41 = .ok (.lstore_n 1, 1) := by decide +kernel
theorem dX9_times_42 : decode cX9_times 42 = .ok (.iload 5, 2) := by decide +kernel
theorem dX9_times_44 : decode cX9_times 44 = .ok (.ifCond .le 18, 3) := by decide +kernel
theorem dX9_times_47 : decode cX9_times 47 = .ok (.lload_n 3, 1) := by decide +kernel
theorem dX9_times_48 : decode cX9_times 48 = .ok (.aload_n 0, 1) := by decide +kernel
theorem dX9_times_49 : decode cX9_times 49 = .ok (.getfield 30, 3) := by decide +kernel
theorem dX9_times_52 : decode cX9_times 52 = .ok (.iload 5, 2) := by decide +kernel
theorem dX9_times_54 : decode cX9_times 54 = .ok (.iconst 1, 1) := by decide +kernel
theorem dX9_times_55 : decode cX9_times 55 = .ok (.isub, 1) := by decide +kernel
theorem dX9_times_56 : decode cX9_times 56 = .ok (.iaload, 1) := by decide +kernel
theorem dX9_times_57 : decode cX9_times 57 = .ok (.i2l, 1) := by decide +kernel
theorem dX9_times_58 : decode cX9_times 58 = .ok (.lmul, 1) := by decide +kernel
theorem dX9_times_59 : decode cX9_times 59 = .ok (.goto 4, 3) := by decide +kernel
theorem dX9_times_62 : decode cX9_times 62 = .ok (.lload_n 3, 1) := by decide +kernel
theorem dX9_times_63 : decode cX9_times 63 = .ok (.lstore_n 3, 1) := by decide +kernel
theorem dX9_times_64 : decode cX9_times 64 = .ok (.iinc 5 (-1), 3) := by decide +kernel
theorem dX9_times_67 : decode cX9_times 67 = .ok (.goto (-57), 3) := by decide +kernel
theorem dX9_times_70 : decode cX9_times 70 = .ok (.aload_n 0, 1) := by decide +kernel
theorem dX9_times_71 : decode cX9_times 71 = .ok (.getfield 245, 3) := by decide +kernel
theorem dX9_times_74 : decode cX9_times 74 = .ok (.lload_n 3, 1) := by decide +kernel
theorem dX9_times_75 : decode cX9_times 75 = .ok (.lmul, 1) := by decide +kernel
theorem dX9_times_76 : decode cX9_times 76 = .ok (.lload_n 3, 1) := by decide +kernel
theorem dX9_times_77 : decode cX9_times 77 = .ok (.lmul, 1) := by decide +kernel
theorem dX9_times_78 : decode cX9_times 78 = .ok (.lstore 5, 2) := by decide +kernel
theorem dX9_times_80 : decode cX9_times 80 = .ok (.lload 5, 2) := by decide +kernel
theorem dX9_times_82 : decode cX9_times 82 = .ok (.lload_n 1, 1) := by decide +kernel
theorem dX9_times_83 : decode cX9_times 83 = .ok (.lrem, 1) := by decide +kernel
theorem dX9_times_84 : decode cX9_times 84 = .ok (.lconst 0, 1) := by decide +kernel
theorem dX9_times_85 : decode cX9_times 85 = .ok (.lcmp, 1) := by decide +kernel
theorem dX9_times_86 : decode cX9_times 86 = .ok (.ifCond .ne 11, 3) := by decide +kernel
theorem dX9_times_89 : decode cX9_times 89 = .ok (.lload 5, 2) := by decide +kernel
theorem dX9_times_91 : decode cX9_times 91 = .ok (.lload_n 1, 1) := by decide +kernel
theorem dX9_times_92 : decode cX9_times 92 = .ok (.ldiv, 1) := by decide +kernel
theorem dX9_times_93 : decode cX9_times 93 = .ok (.l2i, 1) := by decide +kernel
theorem dX9_times_94 : decode cX9_times 94 = .ok (.goto 4, 3) := by decide +kernel
theorem dX9_times_97 : decode cX9_times 97 = .ok (.iconst (-1), 1) := by decide +kernel
theorem dX9_times_98 : decode cX9_times 98 = .ok (.ireturn, 1) := by decide +kernel
theorem dX9_areTimesWhole_0 : decode cX9_areTimesWhole 0 = .ok (.iconst 1, 1) := by decide +kernel
theorem dX9_areTimesWhole_1 : decode cX9_areTimesWhole 1 = .ok (.istore_n 1, 1) := by decide +kernel
theorem dX9_areTimesWhole_2 : decode cX9_areTimesWhole 2 = .ok (.aload_n 0, 1) := by decide +kernel
theorem dX9_areTimesWhole_3 : decode cX9_areTimesWhole 3 = .ok (.getfield 30, 3) := by decide +kernel
theorem dX9_areTimesWhole_6 : decode cX9_areTimesWhole 6 = .ok (.iconst 0, 1) := by decide +kernel
theorem dX9_areTimesWhole_7 : decode cX9_areTimesWhole 7 = .ok (.iaload, 1) := by decide +kernel
theorem dX9_areTimesWhole_8 : decode cX9_areTimesWhole 8 = .ok (.istore_n 2, 1) := by decide +kernel
theorem dX9_areTimesWhole_9 : decode cX9_areTimesWhole 9 = .ok (.iload_n 2, 1) := by decide +kernel
theorem dX9_areTimesWhole_10 : decode cX9_areTimesWhole 10 = .ok (.aload_n 0, 1) := by decide +kernel
theorem dX9_areTimesWhole_11 : decode cX9_areTimesWhole 11 = .ok (.getfield 30, 3) := by decide +kernel
theorem dX9_areTimesWhole_14 : decode cX9_areTimesWhole 14 = .ok (.iconst 0, 1) := by decide +kernel
theorem dX9_areTimesWhole_15 : decode cX9_areTimesWhole 15 = .ok (.iaload, 1) := by decide +kernel
theorem dX9_areTimesWhole_16 : decode cX9_areTimesWhole 16 = .ok (.ineg, 1) := by decide +kernel
theorem dX9_areTimesWhole_17 : decode cX9_areTimesWhole 17 = .ok (.if_icmp .lt 34, 3) := by decide +kernel
theorem dX9_areTimesWhole_20 : decode cX9_areTimesWhole 20 = .ok (.iload_n 1, 1) := by decide +kernel
theorem dX9_areTimesWhole_21 : decode cX9_areTimesWhole 21 = .ok (.ifCond .eq 22, 3) := by decide +kernel
theorem dX9_areTimesWhole_24 : decode cX9_areTimesWhole 24 = .ok (.aload_n 0, 1) := by decide +kernel
theorem dX9_areTimesWhole_25 : decode cX9_areTimesWhole 25 = .ok (.iload_n 2, 1) := by decide +kernel
theorem dX9_areTimesWhole_26 : decode cX9_areTimesWhole 26 = .ok (.invokevirtual 254, 3) := by decide +kernel
theorem dX9_areTimesWhole_29 : decode cX9_areTimesWhole 29 = .ok (.ifCond .eq 10, 3) := by decide +kernel
theorem dX9_areTimesWhole_32 : decode cX9_areTimesWhole 32 = .ok (.aload_n 0, 1) := by decide +kernel
theorem dX9_areTimesWhole_33 : decode cX9_areTimesWhole 33 = .ok (.invokevirtual 257, 3) := by decide +kernel
theorem dX9_areTimesWhole_36 : decode cX9_areTimesWhole 36 = .ok (.ifCond .lt 7, 3) := by decide +kernel
theorem dX9_areTimesWhole_39 : decode cX9_areTimesWhole 39 = .ok (.iconst 1, 1) := by decide +kernel
theorem dX9_areTimesWhole_40 : decode cX9_areTimesWhole 40 = .ok (.goto 4, 3) := by decide +kernel
theorem dX9_areTimesWhole_43 : decode cX9_areTimesWhole 43 = .ok (.iconst 0, 1) := by decide +kernel
theorem dX9_areTimesWhole_44 : decode cX9_areTimesWhole 44 = .ok (.istore_n 1, 1) := by decide +kernel
theorem dX9_areTimesWhole_45 : decode cX9_areTimesWhole 45 = .ok (.iinc 2 (-1), 3) := by decide +kernel
theorem dX9_areTimesWhole_48 : decode cX9_areTimesWhole 48 = .ok (.goto (-39), 3) := by decide +kernel
theorem dX9_areTimesWhole_51 : decode cX9_areTimesWhole 51 = .ok (.iload_n 1, 1) := by decide +kernel
theorem dX9_areTimesWhole_52 : decode cX9_areTimesWhole 52 = .ok (.ireturn, 1) := by decide +kernel
theorem dX9_laws_0 : decode cX9_laws 0 = .ok (.aload_n 0, 1) := by decide +kernel
theorem dX9_laws_1 : decode cX9_laws 1 = .ok (.invokevirtual 260, 3) := by decide +kernel
theorem dX9_laws_4 : decode cX9_laws 4 = .ok (.istore_n 1, 1) := by decide +kernel
theorem dX9_laws_5 : decode cX9_laws 5 = .ok (.iload_n 1, 1) := by decide +kernel
theorem dX9_laws_6 : decode cX9_laws 6 = .ok (.ifCond .le 5, 3) := by decide +kernel
theorem dX9_laws_9 : decode cX9_laws 9 = .ok (.iload_n 1, 1) := by decide +kernel
theorem dX9_laws_10 : decode cX9_laws 10 = .ok (.ireturn, 1) := by decide +kernel
theorem dX9_laws_11 : decode cX9_laws 11 = .ok (.aload_n 0, 1) := by decide +kernel
theorem dX9_laws_12 : decode cX9_laws 12 = .ok (.invokevirtual 263, 3) := by decide +kernel
theorem dX9_laws_15 : decode cX9_laws 15 = .ok (.ifCond .ne 7, 3) := by decide +kernel
theorem dX9_laws_18 : decode cX9_laws 18 = .ok (.iconst 5, 1) := by decide +kernel
theorem dX9_laws_19 : decode cX9_laws 19 = .ok (.goto 16, 3) := by decide +kernel
theorem dX9_laws_22 : decode cX9_laws 22 = .ok (.aload_n 0, 1) := by decide +kernel
theorem dX9_laws_23 : decode cX9_laws 23 = .ok (.invokevirtual 266, 3) := by decide +kernel
theorem dX9_laws_26 : decode cX9_laws 26 = .ok (.ifCond .ne 8, 3) := by decide +kernel
theorem dX9_laws_29 : decode cX9_laws 29 = .ok (.bipush 6, 2) := by decide +kernel
theorem dX9_laws_31 : decode cX9_laws 31 = .ok (.goto 4, 3) := by decide +kernel
theorem dX9_laws_34 : decode cX9_laws 34 = .ok (.iconst 0, 1) := by decide +kernel
theorem dX9_laws_35 : decode cX9_laws 35 = .ok (.ireturn, 1) := by decide +kernel
theorem dX9_can_0 : decode cX9_can 0 = .ok (.aload_n 0, 1) := by decide +kernel
theorem dX9_can_1 : decode cX9_can 1 = .ok (.invokevirtual 269, 3) := by decide +kernel
theorem dX9_can_4 : decode cX9_can 4 = .ok (.istore_n 1, 1) := by decide +kernel
theorem dX9_can_5 : decode cX9_can 5 = .ok (.iload_n 1, 1) := by decide +kernel
theorem dX9_can_6 : decode cX9_can 6 = .ok (.ifCond .le 7, 3) := by decide +kernel
theorem dX9_can_9 : decode cX9_can 9 = .ok (.iload_n 1, 1) := by decide +kernel
theorem dX9_can_10 : decode cX9_can 10 = .ok (.goto 16, 3) := by decide +kernel
theorem dX9_can_13 : decode cX9_can 13 = .ok (.aload_n 0, 1) := by decide +kernel
theorem dX9_can_14 : decode cX9_can 14 = .ok (.invokevirtual 272, 3) := by decide +kernel
theorem dX9_can_17 : decode cX9_can 17 = .ok (.ifCond .eq 7, 3) := by decide +kernel
theorem dX9_can_20 : decode cX9_can 20 = .ok (.iconst 0, 1) := by decide +kernel
theorem dX9_can_21 : decode cX9_can 21 = .ok (.goto 5, 3) := by decide +kernel
theorem dX9_can_24 : decode cX9_can 24 = .ok (.bipush 7, 2) := by decide +kernel
theorem dX9_can_26 : decode cX9_can 26 = .ok (.ireturn, 1) := by decide +kernel
theorem dX9_entry_0 : decode cX9_entry 0 = .ok (.iload_n 2, 1) := by decide +kernel
theorem dX9_entry_1 : decode cX9_entry 1 = .ok (.i2l, 1) := by decide +kernel
theorem dX9_entry_2 : decode cX9_entry 2 = .ok (.lconst 0, 1) := by decide +kernel
theorem dX9_entry_3 : decode cX9_entry 3 = .ok (.ldc2_w 110, 3) := by decide +kernel
theorem dX9_entry_6 : decode cX9_entry 6 = .ok (.invokestatic 112, 3) := by decide +kernel
theorem dX9_entry_9 : decode cX9_entry 9 = .ok (.ifCond .eq 17, 3) := by decide +kernel
theorem dX9_entry_12 : decode cX9_entry 12 = .ok (.iload_n 1, 1) := by decide +kernel
theorem dX9_entry_13 : decode cX9_entry 13 = .ok (.i2l, 1) := by decide +kernel
theorem dX9_entry_14 : decode cX9_entry 14 = .ok (.lconst 0, 1) := by decide +kernel
theorem dX9_entry_15 : decode cX9_entry 15 = .ok (.aload_n 0, 1) := by decide +kernel
theorem dX9_entry_16 : decode cX9_entry 16 = .ok (.getfield 26, 3) := by decide +kernel
theorem dX9_entry_19 : decode cX9_entry 19 = .ok (.i2l, 1) := by decide +kernel
theorem dX9_entry_20 : decode cX9_entry 20 = .ok (.invokestatic 112, 3) := by decide +kernel
theorem dX9_entry_23 : decode cX9_entry 23 = .ok (.ifCond .ne 5, 3) := by decide +kernel
theorem dX9_entry_26 : decode cX9_entry 26 = .ok (.iconst (-1), 1) := by decide +kernel
theorem dX9_entry_27 : decode cX9_entry 27 = .ok (.ireturn, 1) := by decide +kernel
theorem dX9_entry_28 : decode cX9_entry 28 = .ok (.aload_n 0, 1) := by decide +kernel
theorem dX9_entry_29 : decode cX9_entry 29 = .ok (.invokevirtual 260, 3) := by decide +kernel
theorem dX9_entry_32 : decode cX9_entry 32 = .ok (.ifCond .le 6, 3) := by decide +kernel
theorem dX9_entry_35 : decode cX9_entry 35 = .ok (.bipush (-6), 2) := by decide +kernel
theorem dX9_entry_37 : decode cX9_entry 37 = .ok (.ireturn, 1) := by decide +kernel
theorem dX9_entry_38 : decode cX9_entry 38 = .ok (.iload_n 2, 1) := by decide +kernel
theorem dX9_entry_39 : decode cX9_entry 39 = .ok (.ifCond .ne 12, 3) := by decide +kernel
theorem dX9_entry_42 : decode cX9_entry 42 = .ok (.aload_n 0, 1) := by decide +kernel
theorem dX9_entry_43 : decode cX9_entry 43 = .ok (.getfield 33, 3) := by decide +kernel
theorem dX9_entry_46 : decode cX9_entry 46 = .ok (.iload_n 1, 1) := by decide +kernel
theorem dX9_entry_47 : decode cX9_entry 47 = .ok (.iaload, 1) := by decide +kernel
theorem dX9_entry_48 : decode cX9_entry 48 = .ok (.goto 37, 3) := by decide +kernel
theorem dX9_entry_51 : decode cX9_entry 51 = .ok (.iload_n 2, 1) := by decide +kernel
theorem dX9_entry_52 : decode cX9_entry 52 = .ok (.iconst 1, 1) := by decide +kernel
theorem dX9_entry_53 : decode cX9_entry 53 = .ok (.if_icmp .ne 11, 3) := by decide +kernel
theorem dX9_entry_56 : decode cX9_entry 56 = .ok (.aload_n 0, 1) := by decide +kernel
theorem dX9_entry_57 : decode cX9_entry 57 = .ok (.iload_n 1, 1) := by decide +kernel
theorem dX9_entry_58 : decode cX9_entry 58 = .ok (.invokevirtual 242, 3) := by decide +kernel
theorem dX9_entry_61 : decode cX9_entry 61 = .ok (.goto 24, 3) := by decide +kernel
theorem dX9_entry_64 : decode cX9_entry 64 = .ok (.iload_n 2, 1) := by decide +kernel
theorem dX9_entry_65 : decode cX9_entry 65 = .ok (.iconst 2, 1) := by decide +kernel
theorem dX9_entry_66 : decode cX9_entry 66 = .ok (.if_icmp .ne 12, 3) := by decide +kernel
theorem dX9_entry_69 : decode cX9_entry 69 = .ok (.aload_n 0, 1) := by decide +kernel
theorem dX9_entry_70 : decode cX9_entry 70 = .ok (.getfield 30, 3) := by decide +kernel
theorem dX9_entry_73 : decode cX9_entry 73 = .ok (.iload_n 1, 1) := by decide +kernel
theorem dX9_entry_74 : decode cX9_entry 74 = .ok (.iaload, 1) := by decide +kernel
theorem dX9_entry_75 : decode cX9_entry 75 = .ok (.goto 10, 3) := by decide +kernel
theorem dX9_entry_78 : decode cX9_entry 78 = .ok (.aload_n 0, 1) := by decide +kernel
theorem dX9_entry_79 : decode cX9_entry 79 = .ok (.getfield 57, 3) := by decide +kernel
theorem dX9_entry_82 : decode cX9_entry 82 = .ok (.iload_n 1, 1) := by decide +kernel
theorem dX9_entry_83 : decode cX9_entry 83 = .ok (.laload, 1) := by decide +kernel
theorem dX9_entry_84 : decode cX9_entry 84 = .ok (.l2i, 1) := by decide +kernel
theorem dX9_entry_85 : decode cX9_entry 85 = .ok (.ireturn, 1) := by decide +kernel
theorem dX9_posts_0 : decode cX9_posts 0 = .ok (.aload_n 0, 1) := by decide +kernel
theorem dX9_posts_1 : decode cX9_posts 1 = .ok (.invokevirtual 260, 3) := by decide +kernel
theorem dX9_posts_4 : decode cX9_posts 4 = .ok (.ifCond .le 8, 3) := by decide +kernel
theorem dX9_posts_7 : decode cX9_posts 7 = .ok (.bipush (-6), 2) := by decide +kernel
theorem dX9_posts_9 : decode cX9_posts 9 = .ok (.goto 8, 3) := by decide +kernel
theorem dX9_posts_12 : decode cX9_posts 12 = .ok (.aload_n 0, 1) := by decide +kernel
theorem dX9_posts_13 : decode cX9_posts 13 = .ok (.getfield 245, 3) := by decide +kernel
theorem dX9_posts_16 : decode cX9_posts 16 = .ok (.l2i, 1) := by decide +kernel
theorem dX9_posts_17 : decode cX9_posts 17 = .ok (.ireturn, 1) := by decide +kernel
theorem dX9_third_0 : decode cX9_third 0 = .ok (.iload_n 1, 1) := by decide +kernel
theorem dX9_third_1 : decode cX9_third 1 = .ok (.i2l, 1) := by decide +kernel
theorem dX9_third_2 : decode cX9_third 2 = .ok (.lconst 0, 1) := by decide +kernel
theorem dX9_third_3 : decode cX9_third 3 = .ok (.aload_n 0, 1) := by decide +kernel
theorem dX9_third_4 : decode cX9_third 4 = .ok (.getfield 26, 3) := by decide +kernel
theorem dX9_third_7 : decode cX9_third 7 = .ok (.i2l, 1) := by decide +kernel
theorem dX9_third_8 : decode cX9_third 8 = .ok (.invokestatic 112, 3) := by decide +kernel
theorem dX9_third_11 : decode cX9_third 11 = .ok (.ifCond .eq 31, 3) := by decide +kernel
theorem dX9_third_14 : decode cX9_third 14 = .ok (.iload_n 2, 1) := by decide +kernel
theorem dX9_third_15 : decode cX9_third 15 = .ok (.i2l, 1) := by decide +kernel
theorem dX9_third_16 : decode cX9_third 16 = .ok (.lconst 0, 1) := by decide +kernel
theorem dX9_third_17 : decode cX9_third 17 = .ok (.aload_n 0, 1) := by decide +kernel
theorem dX9_third_18 : decode cX9_third 18 = .ok (.getfield 26, 3) := by decide +kernel
theorem dX9_third_21 : decode cX9_third 21 = .ok (.i2l, 1) := by decide +kernel
theorem dX9_third_22 : decode cX9_third 22 = .ok (.invokestatic 112, 3) := by decide +kernel
theorem dX9_third_25 : decode cX9_third 25 = .ok (.ifCond .eq 17, 3) := by decide +kernel
theorem dX9_third_28 : decode cX9_third 28 = .ok (.iload_n 3, 1) := by decide +kernel
theorem dX9_third_29 : decode cX9_third 29 = .ok (.i2l, 1) := by decide +kernel
theorem dX9_third_30 : decode cX9_third 30 = .ok (.lconst 0, 1) := by decide +kernel
theorem dX9_third_31 : decode cX9_third 31 = .ok (.aload_n 0, 1) := by decide +kernel
theorem dX9_third_32 : decode cX9_third 32 = .ok (.getfield 26, 3) := by decide +kernel
theorem dX9_third_35 : decode cX9_third 35 = .ok (.i2l, 1) := by decide +kernel
theorem dX9_third_36 : decode cX9_third 36 = .ok (.invokestatic 112, 3) := by decide +kernel
theorem dX9_third_39 : decode cX9_third 39 = .ok (.ifCond .ne 5, 3) := by decide +kernel
theorem dX9_third_42 : decode cX9_third 42 = .ok (.iconst (-1), 1) := by decide +kernel
theorem dX9_third_43 : decode cX9_third 43 = .ok (.ireturn, 1) := by decide +kernel
theorem dX9_third_44 : decode cX9_third 44 = .ok (.aload_n 0, 1) := by decide +kernel
theorem dX9_third_45 : decode cX9_third 45 = .ok (.invokevirtual 269, 3) := by decide +kernel
theorem dX9_third_48 : decode cX9_third 48 = .ok (.ifCond .le 8, 3) := by decide +kernel
theorem dX9_third_51 : decode cX9_third 51 = .ok (.bipush (-6), 2) := by decide +kernel
theorem dX9_third_53 : decode cX9_third 53 = .ok (.goto 20, 3) := by decide +kernel
theorem dX9_third_56 : decode cX9_third 56 = .ok (.aload_n 0, 1) := by decide +kernel
theorem dX9_third_57 : decode cX9_third 57 = .ok (.getfield 61, 3) := by decide +kernel
theorem dX9_third_60 : decode cX9_third 60 = .ok (.bipush 36, 2) := by decide +kernel
theorem dX9_third_62 : decode cX9_third 62 = .ok (.iload_n 1, 1) := by decide +kernel
theorem dX9_third_63 : decode cX9_third 63 = .ok (.imul, 1) := by decide +kernel
theorem dX9_third_64 : decode cX9_third 64 = .ok (.bipush 6, 2) := by decide +kernel
theorem dX9_third_66 : decode cX9_third 66 = .ok (.iload_n 2, 1) := by decide +kernel
theorem dX9_third_67 : decode cX9_third 67 = .ok (.imul, 1) := by decide +kernel
theorem dX9_third_68 : decode cX9_third 68 = .ok (.iadd, 1) := by decide +kernel
theorem dX9_third_69 : decode cX9_third 69 = .ok (.iload_n 3, 1) := by decide +kernel
theorem dX9_third_70 : decode cX9_third 70 = .ok (.iadd, 1) := by decide +kernel
theorem dX9_third_71 : decode cX9_third 71 = .ok (.laload, 1) := by decide +kernel
theorem dX9_third_72 : decode cX9_third 72 = .ok (.l2i, 1) := by decide +kernel
theorem dX9_third_73 : decode cX9_third 73 = .ok (.ireturn, 1) := by decide +kernel
theorem dX9_root_0 : decode cX9_root 0 = .ok (.iload_n 2, 1) := by decide +kernel
theorem dX9_root_1 : decode cX9_root 1 = .ok (.i2l, 1) := by decide +kernel
theorem dX9_root_2 : decode cX9_root 2 = .ok (.lconst 0, 1) := by decide +kernel
theorem dX9_root_3 : decode cX9_root 3 = .ok (.lconst 1, 1) := by decide +kernel
theorem dX9_root_4 : decode cX9_root 4 = .ok (.invokestatic 112, 3) := by decide +kernel
theorem dX9_root_7 : decode cX9_root 7 = .ok (.ifCond .ne 7, 3) := by decide +kernel
theorem dX9_root_10 : decode cX9_root 10 = .ok (.sipush (-1000), 3) := by decide +kernel
theorem dX9_root_13 : decode cX9_root 13 = .ok (.ireturn, 1) := by decide +kernel
theorem dX9_root_14 : decode cX9_root 14 = .ok (.aload_n 0, 1) := by decide +kernel
theorem dX9_root_15 : decode cX9_root 15 = .ok (.invokevirtual 269, 3) := by decide +kernel
theorem dX9_root_18 : decode cX9_root 18 = .ok (.ifCond .le 7, 3) := by decide +kernel
theorem dX9_root_21 : decode cX9_root 21 = .ok (.sipush (-1001), 3) := by decide +kernel
theorem dX9_root_24 : decode cX9_root 24 = .ok (.ireturn, 1) := by decide +kernel
theorem dX9_root_25 : decode cX9_root 25 = .ok (.iload_n 1, 1) := by decide +kernel
theorem dX9_root_26 : decode cX9_root 26 = .ok (.istore_n 3, 1) := by decide +kernel
theorem dX9_root_27 : decode cX9_root 27 = .ok (.aload_n 0, 1) := by decide +kernel
theorem dX9_root_28 : decode cX9_root 28 = .ok (.getfield 30, 3) := by decide +kernel
theorem dX9_root_31 : decode cX9_root 31 = .ok (.iconst 0, 1) := by decide +kernel
theorem dX9_root_32 : decode cX9_root 32 = .ok (.iaload, 1) := by decide +kernel
theorem dX9_root_33 : decode cX9_root 33 = .ok (.istore 4, 2) := by decide +kernel
theorem dX9_root_35 : decode cX9_root 35 = .ok (.iload 4, 2) := by decide +kernel
theorem dX9_root_37 : decode cX9_root 37 = .ok (.aload_n 0, 1) := by decide +kernel
theorem dX9_root_38 : decode cX9_root 38 = .ok (.getfield 30, 3) := by decide +kernel
theorem dX9_root_41 : decode cX9_root 41 = .ok (.iconst 0, 1) := by decide +kernel
theorem dX9_root_42 : decode cX9_root 42 = .ok (.iaload, 1) := by decide +kernel
theorem dX9_root_43 : decode cX9_root 43 = .ok (.ineg, 1) := by decide +kernel
theorem dX9_root_44 : decode cX9_root 44 = .ok (.if_icmp .lt 39, 3) := by decide +kernel
theorem dX9_root_47 : decode cX9_root 47 = .ok (.aload_n 0, 1) := by decide +kernel
theorem dX9_root_48 : decode cX9_root 48 = .ok (.iload 4, 2) := by decide +kernel
theorem dX9_root_50 : decode cX9_root 50 = .ok (.invokevirtual 254, 3) := by decide +kernel
theorem dX9_root_53 : decode cX9_root 53 = .ok (.ifCond .eq 24, 3) := by decide +kernel
theorem dX9_root_56 : decode cX9_root 56 = .ok (.iload_n 3, 1) := by decide +kernel
theorem dX9_root_57 : decode cX9_root 57 = .ok (.ifCond .ne 17, 3) := by decide +kernel
theorem dX9_root_60 : decode cX9_root 60 = .ok (.iload_n 2, 1) := by decide +kernel
theorem dX9_root_61 : decode cX9_root 61 = .ok (.ifCond .ne 8, 3) := by decide +kernel
theorem dX9_root_64 : decode cX9_root 64 = .ok (.iload 4, 2) := by decide +kernel
theorem dX9_root_66 : decode cX9_root 66 = .ok (.goto 7, 3) := by decide +kernel
theorem dX9_root_69 : decode cX9_root 69 = .ok (.aload_n 0, 1) := by decide +kernel
theorem dX9_root_70 : decode cX9_root 70 = .ok (.invokevirtual 257, 3) := by decide +kernel
theorem dX9_root_73 : decode cX9_root 73 = .ok (.ireturn, 1) := by decide +kernel
theorem dX9_root_74 : decode cX9_root 74 = .ok (.iinc 3 (-1), 3) := by decide +kernel
theorem dX9_root_77 : decode cX9_root 77 = .ok (.iinc 4 (-1), 3) := by decide +kernel
theorem dX9_root_80 : decode cX9_root 80 = .ok (.goto (-45), 3) := by decide +kernel
theorem dX9_root_83 : decode cX9_root 83 = .ok (.sipush (-1002), 3) := by decide +kernel
theorem dX9_root_86 : decode cX9_root 86 = .ok (.ireturn, 1) := by decide +kernel
theorem dX9_walks_0 : decode cX9_walks 0 = .ok (.iload_n 1, 1) := by decide +kernel
theorem dX9_walks_1 : decode cX9_walks 1 = .ok (.i2l, 1) := by decide +kernel
theorem dX9_walks_2 : decode cX9_walks 2 = .ok (.lconst 0, 1) := by decide +kernel
theorem dX9_walks_3 : decode cX9_walks 3 = .ok (.aload_n 0, 1) := by decide +kernel
theorem dX9_walks_4 : decode cX9_walks 4 = .ok (.getfield 26, 3) := by decide +kernel
theorem dX9_walks_7 : decode cX9_walks 7 = .ok (.i2l, 1) := by decide +kernel
theorem dX9_walks_8 : decode cX9_walks 8 = .ok (.invokestatic 112, 3) := by decide +kernel
theorem dX9_walks_11 : decode cX9_walks 11 = .ok (.ifCond .eq 15, 3) := by decide +kernel
theorem dX9_walks_14 : decode cX9_walks 14 = .ok (.iload_n 2, 1) := by decide +kernel
theorem dX9_walks_15 : decode cX9_walks 15 = .ok (.i2l, 1) := by decide +kernel
theorem dX9_walks_16 : decode cX9_walks 16 = .ok (.lconst 0, 1) := by decide +kernel
theorem dX9_walks_17 : decode cX9_walks 17 = .ok (.ldc2_w 275, 3) := by decide +kernel
theorem dX9_walks_20 : decode cX9_walks 20 = .ok (.invokestatic 112, 3) := by decide +kernel
theorem dX9_walks_23 : decode cX9_walks 23 = .ok (.ifCond .ne 7, 3) := by decide +kernel
theorem dX9_walks_26 : decode cX9_walks 26 = .ok (.ldc2_w 277, 3) := by decide +kernel
theorem dX9_walks_29 : decode cX9_walks 29 = .ok (.lreturn, 1) := by decide +kernel
theorem dX9_walks_30 : decode cX9_walks 30 = .ok (.aload_n 0, 1) := by decide +kernel
theorem dX9_walks_31 : decode cX9_walks 31 = .ok (.invokevirtual 260, 3) := by decide +kernel
theorem dX9_walks_34 : decode cX9_walks 34 = .ok (.ifCond .le 7, 3) := by decide +kernel
theorem dX9_walks_37 : decode cX9_walks 37 = .ok (.ldc2_w 279, 3) := by decide +kernel
theorem dX9_walks_40 : decode cX9_walks 40 = .ok (.lreturn, 1) := by decide +kernel
theorem dX9_walks_41 : decode cX9_walks 41 = .ok (.iconst 0, 1) := by decide +kernel
theorem dX9_walks_42 : decode cX9_walks 42 = .ok (.istore_n 3, 1) := by decide +kernel
theorem dX9_walks_43 : decode cX9_walks 43 = .ok (.iload_n 3, 1) := by decide +kernel
theorem dX9_walks_44 : decode cX9_walks 44 = .ok (.aload_n 0, 1) := by decide +kernel
theorem dX9_walks_45 : decode cX9_walks 45 = .ok (.getfield 26, 3) := by decide +kernel
theorem dX9_walks_48 : decode cX9_walks 48 = .ok (.if_icmp .gt 24, 3) := by decide +kernel
theorem dX9_walks_51 : decode cX9_walks 51 = .ok (.aload_n 0, 1) := by decide +kernel
theorem dX9_walks_52 : decode cX9_walks 52 = .ok (.getfield 67, 3) := by decide +kernel
theorem dX9_walks_55 : decode cX9_walks 55 = .ok (.iload_n 3, 1) := by decide +kernel
theorem dX9_walks_56 : decode cX9_walks 56 = .ok (.iload_n 3, 1) := by decide +kernel
theorem dX9_walks_57 : decode cX9_walks 57 = .ok (.ifCond .ne 7, 3) := by decide +kernel
theorem dX9_walks_60 : decode cX9_walks 60 = .ok (.lconst 1, 1) := by decide +kernel
theorem dX9_walks_61 : decode cX9_walks 61 = .ok (.goto 4, 3) := by decide +kernel
theorem dX9_walks_64 : decode cX9_walks 64 = .ok (.lconst 0, 1) := by decide +kernel
theorem dX9_walks_65 : decode cX9_walks 65 = .ok (.lastore, 1) := by decide +kernel
theorem dX9_walks_66 : decode cX9_walks 66 = .ok (.iinc 3 1, 3) := by decide +kernel
theorem dX9_walks_69 : decode cX9_walks 69 = .ok (.goto (-26), 3) := by decide +kernel
theorem dX9_walks_72 : decode cX9_walks 72 = .ok (.iconst 0, 1) := by decide +kernel
theorem dX9_walks_73 : decode cX9_walks 73 = .ok (.istore_n 3, 1) := by decide +kernel
theorem dX9_walks_74 : decode cX9_walks 74 = .ok (.iload_n 3, 1) := by decide +kernel
theorem dX9_walks_75 : decode cX9_walks 75 = .ok (.iload_n 2, 1) := by decide +kernel
theorem dX9_walks_76 : decode cX9_walks 76 = .ok (.if_icmp .ge 153, 3) := by decide +kernel
theorem dX9_walks_79 : decode cX9_walks 79 = .ok (.iconst 0, 1) := by decide +kernel
theorem dX9_walks_80 : decode cX9_walks 80 = .ok (.istore 4, 2) := by decide +kernel
theorem dX9_walks_82 : decode cX9_walks 82 = .ok (.iload 4, 2) := by decide +kernel
theorem dX9_walks_84 : decode cX9_walks 84 = .ok (.aload_n 0, 1) := by decide +kernel
theorem dX9_walks_85 : decode cX9_walks 85 = .ok (.getfield 26, 3) := by decide +kernel
theorem dX9_walks_88 : decode cX9_walks 88 = .ok (.if_icmp .gt 103, 3) := by decide +kernel
theorem dX9_walks_91 : decode cX9_walks 91 = .ok (.aload_n 0, 1) := by decide +kernel
theorem dX9_walks_92 : decode cX9_walks 92 = .ok (.iload 4, 2) := by decide +kernel
theorem dX9_walks_94 : decode cX9_walks 94 = .ok (.invokevirtual 242, 3) := by decide +kernel
theorem dX9_walks_97 : decode cX9_walks 97 = .ok (.i2l, 1) := by decide +kernel
theorem dX9_walks_98 : decode cX9_walks 98 = .ok (.aload_n 0, 1) := by decide +kernel
theorem dX9_walks_99 : decode cX9_walks 99 = .ok (.getfield 67, 3) := by decide +kernel
theorem dX9_walks_102 : decode cX9_walks 102 = .ok (.iload 4, 2) := by decide +kernel
theorem dX9_walks_104 : decode cX9_walks 104 = .ok (.laload, 1) := by decide +kernel
theorem dX9_walks_105 : decode cX9_walks 105 = .ok (.lmul, 1) := by decide +kernel
theorem dX9_walks_106 : decode cX9_walks 106 = .ok (.lstore 5, 2) := by decide +kernel
theorem dX9_walks_108 : decode cX9_walks 108 = .ok (.lload 5, 2) := by decide +kernel
theorem dX9_walks_110 : decode cX9_walks 110 = .ok (.iload 4, 2) := by decide +kernel
theorem dX9_walks_112 : decode cX9_walks 112 = .ok (.ifCond .le 24, 3) := by decide +kernel
theorem dX9_walks_115 : decode cX9_walks 115 = .ok (.aload_n 0, 1) := by decide +kernel
theorem dX9_walks_116 : decode cX9_walks 116 = .ok (.getfield 33, 3) := by decide +kernel
theorem dX9_walks_119 : decode cX9_walks 119 = .ok (.iload 4, 2) := by decide +kernel
theorem dX9_walks_121 : decode cX9_walks 121 = .ok (.iaload, 1) := by decide +kernel
theorem dX9_walks_122 : decode cX9_walks 122 = .ok (.i2l, 1) := by decide +kernel
theorem dX9_walks_123 : decode cX9_walks 123 = .ok (.aload_n 0, 1) := by decide +kernel
theorem dX9_walks_124 : decode cX9_walks 124 = .ok (.getfield 67, 3) := by decide +kernel
theorem dX9_walks_127 : decode cX9_walks 127 = .ok (.iload 4, 2) := by decide +kernel
theorem dX9_walks_129 : decode cX9_walks 129 = .ok (.iconst 1, 1) := by decide +kernel
theorem dX9_walks_130 : decode cX9_walks 130 = .ok (.isub, 1) := by decide +kernel
theorem dX9_walks_131 : decode cX9_walks 131 = .ok (.laload, 1) := by decide +kernel
theorem dX9_walks_132 : decode cX9_walks 132 = .ok (.lmul, 1) := by decide +kernel
theorem dX9_walks_133 : decode cX9_walks 133 = .ok (.goto 4, 3) := by decide +kernel
theorem dX9_walks_136 : decode cX9_walks 136 = .ok (.lconst 0, 1) := by decide +kernel
theorem dX9_walks_137 : decode cX9_walks 137 = .ok (.ladd, 1) := by decide +kernel
theorem dX9_walks_138 : decode cX9_walks 138 = .ok (.lstore 5, 2) := by decide +kernel
theorem dX9_walks_140 : decode cX9_walks 140 = .ok (.lload 5, 2) := by decide +kernel
theorem dX9_walks_142 : decode cX9_walks 142 = .ok (.iload 4, 2) := by decide +kernel
theorem dX9_walks_144 : decode cX9_walks 144 = .ok (.aload_n 0, 1) := by decide +kernel
theorem dX9_walks_145 : decode cX9_walks 145 = .ok (.getfield 26, 3) := by decide +kernel
theorem dX9_walks_148 : decode cX9_walks 148 = .ok (.if_icmp .ge 24, 3) := by decide +kernel
theorem dX9_walks_151 : decode cX9_walks 151 = .ok (.aload_n 0, 1) := by decide +kernel
theorem dX9_walks_152 : decode cX9_walks 152 = .ok (.getfield 30, 3) := by decide +kernel
theorem dX9_walks_155 : decode cX9_walks 155 = .ok (.iload 4, 2) := by decide +kernel
theorem dX9_walks_157 : decode cX9_walks 157 = .ok (.iaload, 1) := by decide +kernel
theorem dX9_walks_158 : decode cX9_walks 158 = .ok (.i2l, 1) := by decide +kernel
theorem dX9_walks_159 : decode cX9_walks 159 = .ok (.aload_n 0, 1) := by decide +kernel
theorem dX9_walks_160 : decode cX9_walks 160 = .ok (.getfield 67, 3) := by decide +kernel
theorem dX9_walks_163 : decode cX9_walks 163 = .ok (.iload 4, 2) := by decide +kernel
theorem dX9_walks_165 : decode cX9_walks 165 = .ok (.iconst 1, 1) := by decide +kernel
theorem dX9_walks_166 : decode cX9_walks 166 = .ok (.iadd, 1) := by decide +kernel
theorem dX9_walks_167 : decode cX9_walks 167 = .ok (.laload, 1) := by decide +kernel
theorem dX9_walks_168 : decode cX9_walks 168 = .ok (.lmul, 1) := by decide +kernel
theorem dX9_walks_169 : decode cX9_walks 169 = .ok (.goto 4, 3) := by decide +kernel
theorem dX9_walks_172 : decode cX9_walks 172 = .ok (.lconst 0, 1) := by decide +kernel
theorem dX9_walks_173 : decode cX9_walks 173 = .ok (.ladd, 1) := by decide +kernel
theorem dX9_walks_174 : decode cX9_walks 174 = .ok (.lstore 5, 2) := by decide +kernel
theorem dX9_walks_176 : decode cX9_walks 176 = .ok (.aload_n 0, 1) := by decide +kernel
theorem dX9_walks_177 : decode cX9_walks 177 = .ok (.getfield 70, 3) := by decide +kernel
theorem dX9_walks_180 : decode cX9_walks 180 = .ok (.iload 4, 2) := by decide +kernel
theorem dX9_walks_182 : decode cX9_walks 182 = .ok (.lload 5, 2) := by decide +kernel
theorem dX9_walks_184 : decode cX9_walks 184 = .ok (.lastore, 1) := by decide +kernel
theorem dX9_walks_185 : decode cX9_walks 185 = .ok (.iinc 4 1, 3) := by decide +kernel
theorem dX9_walks_188 : decode cX9_walks 188 = .ok (.goto (-106), 3) := by decide +kernel
theorem dX9_walks_191 : decode cX9_walks 191 = .ok (.iconst 0, 1) := by decide +kernel
theorem dX9_walks_192 : decode cX9_walks 192 = .ok (.istore 4, 2) := by decide +kernel
theorem dX9_walks_194 : decode cX9_walks 194 = .ok (.iload 4, 2) := by decide +kernel
theorem dX9_walks_196 : decode cX9_walks 196 = .ok (.aload_n 0, 1) := by decide +kernel
theorem dX9_walks_197 : decode cX9_walks 197 = .ok (.getfield 26, 3) := by decide +kernel
theorem dX9_walks_200 : decode cX9_walks 200 = .ok (.if_icmp .gt 23, 3) := by decide +kernel
theorem dX9_walks_203 : decode cX9_walks 203 = .ok (.aload_n 0, 1) := by decide +kernel
theorem dX9_walks_204 : decode cX9_walks 204 = .ok (.getfield 67, 3) := by decide +kernel
theorem dX9_walks_207 : decode cX9_walks 207 = .ok (.iload 4, 2) := by decide +kernel
theorem dX9_walks_209 : decode cX9_walks 209 = .ok (.aload_n 0, 1) := by decide +kernel
theorem dX9_walks_210 : decode cX9_walks 210 = .ok (.getfield 70, 3) := by decide +kernel
theorem dX9_walks_213 : decode cX9_walks 213 = .ok (.iload 4, 2) := by decide +kernel
theorem dX9_walks_215 : decode cX9_walks 215 = .ok (.laload, 1) := by decide +kernel
theorem dX9_walks_216 : decode cX9_walks 216 = .ok (.lastore, 1) := by decide +kernel
theorem dX9_walks_217 : decode cX9_walks 217 = .ok (.iinc 4 1, 3) := by decide +kernel
theorem dX9_walks_220 : decode cX9_walks 220 = .ok (.goto (-26), 3) := by decide +kernel
theorem dX9_walks_223 : decode cX9_walks 223 = .ok (.iinc 3 1, 3) := by decide +kernel
theorem dX9_walks_226 : decode cX9_walks 226 = .ok (.goto (-152), 3) := by decide +kernel
theorem dX9_walks_229 : decode cX9_walks 229 = .ok (.aload_n 0, 1) := by decide +kernel
theorem dX9_walks_230 : decode cX9_walks 230 = .ok (.getfield 67, 3) := by decide +kernel
theorem dX9_walks_233 : decode cX9_walks 233 = .ok (.iload_n 1, 1) := by decide +kernel
theorem dX9_walks_234 : decode cX9_walks 234 = .ok (.laload, 1) := by decide +kernel
theorem dX9_walks_235 : decode cX9_walks 235 = .ok (.lreturn, 1) := by decide +kernel
theorem dX9_bound_0 : decode cX9_bound 0 = .ok (.iload_n 1, 1) := by decide +kernel
theorem dX9_bound_1 : decode cX9_bound 1 = .ok (.i2l, 1) := by decide +kernel
theorem dX9_bound_2 : decode cX9_bound 2 = .ok (.lconst 1, 1) := by decide +kernel
theorem dX9_bound_3 : decode cX9_bound 3 = .ok (.ldc2_w 281, 3) := by decide +kernel
theorem dX9_bound_6 : decode cX9_bound 6 = .ok (.invokestatic 112, 3) := by decide +kernel
theorem dX9_bound_9 : decode cX9_bound 9 = .ok (.ifCond .eq 15, 3) := by decide +kernel
theorem dX9_bound_12 : decode cX9_bound 12 = .ok (.iload_n 2, 1) := by decide +kernel
theorem dX9_bound_13 : decode cX9_bound 13 = .ok (.i2l, 1) := by decide +kernel
theorem dX9_bound_14 : decode cX9_bound 14 = .ok (.lconst 1, 1) := by decide +kernel
theorem dX9_bound_15 : decode cX9_bound 15 = .ok (.ldc2_w 283, 3) := by decide +kernel
theorem dX9_bound_18 : decode cX9_bound 18 = .ok (.invokestatic 112, 3) := by decide +kernel
theorem dX9_bound_21 : decode cX9_bound 21 = .ok (.ifCond .ne 7, 3) := by decide +kernel
theorem dX9_bound_24 : decode cX9_bound 24 = .ok (.ldc2_w 277, 3) := by decide +kernel
theorem dX9_bound_27 : decode cX9_bound 27 = .ok (.lreturn, 1) := by decide +kernel
theorem dX9_bound_28 : decode cX9_bound 28 = .ok (.lconst 1, 1) := by decide +kernel
theorem dX9_bound_29 : decode cX9_bound 29 = .ok (.lstore_n 3, 1) := by decide +kernel
theorem dX9_bound_30 : decode cX9_bound 30 = .ok (.iload_n 1, 1) := by decide +kernel
theorem dX9_bound_31 : decode cX9_bound 31 = .ok (.i2l, 1) := by decide +kernel
theorem dX9_bound_32 : decode cX9_bound 32 = .ok (.lstore 5, 2) := by decide +kernel
theorem dX9_bound_34 : decode cX9_bound 34 = .ok (.iconst 1, 1) := by decide +kernel
theorem dX9_bound_35 : decode cX9_bound 35 = .ok (.istore 7, 2) := by decide +kernel
theorem dX9_bound_37 : decode cX9_bound 37 = .ok (.iload 7, 2) := by decide +kernel
theorem dX9_bound_39 : decode cX9_bound 39 = .ok (.iload_n 2, 1) := by decide +kernel
theorem dX9_bound_40 : decode cX9_bound 40 = .ok (.if_icmp .gt 23, 3) := by decide +kernel
theorem dX9_bound_43 : decode cX9_bound 43 = .ok (.lload_n 3, 1) := by decide +kernel
theorem dX9_bound_44 : decode cX9_bound 44 = .ok (.lload 5, 2) := by decide +kernel
theorem dX9_bound_46 : decode cX9_bound 46 = .ok (.ladd, 1) := by decide +kernel
theorem dX9_bound_47 : decode cX9_bound 47 = .ok (.lstore_n 3, 1) := by decide +kernel
theorem dX9_bound_48 : decode cX9_bound 48 = .ok (.lload 5, 2) := by decide +kernel
theorem dX9_bound_50 : decode cX9_bound 50 = .ok (.iload_n 1, 1) := by decide +kernel
theorem dX9_bound_51 : decode cX9_bound 51 = .ok (.iconst 1, 1) := by decide +kernel
theorem dX9_bound_52 : decode cX9_bound 52 = .ok (.isub, 1) := by decide +kernel
theorem dX9_bound_53 : decode cX9_bound 53 = .ok (.i2l, 1) := by decide +kernel
theorem dX9_bound_54 : decode cX9_bound 54 = .ok (.lmul, 1) := by decide +kernel
theorem dX9_bound_55 : decode cX9_bound 55 = .ok (.lstore 5, 2) := by decide +kernel
theorem dX9_bound_57 : decode cX9_bound 57 = .ok (.iinc 7 1, 3) := by decide +kernel
theorem dX9_bound_60 : decode cX9_bound 60 = .ok (.goto (-23), 3) := by decide +kernel
theorem dX9_bound_63 : decode cX9_bound 63 = .ok (.lload_n 3, 1) := by decide +kernel
theorem dX9_bound_64 : decode cX9_bound 64 = .ok (.lreturn, 1) := by decide +kernel
theorem dX9_become_0 : decode cX9_become 0 = .ok (.aload_n 0, 1) := by decide +kernel
theorem dX9_become_1 : decode cX9_become 1 = .ok (.iload_n 1, 1) := by decide +kernel
theorem dX9_become_2 : decode cX9_become 2 = .ok (.putfield 116, 3) := by decide +kernel
theorem dX9_become_5 : decode cX9_become 5 = .ok (.iconst 0, 1) := by decide +kernel
theorem dX9_become_6 : decode cX9_become 6 = .ok (.istore_n 2, 1) := by decide +kernel
theorem dX9_become_7 : decode cX9_become 7 = .ok (.iload_n 2, 1) := by decide +kernel
theorem dX9_become_8 : decode cX9_become 8 = .ok (.sipush 1024, 3) := by decide +kernel
theorem dX9_become_11 : decode cX9_become 11 = .ok (.if_icmp .ge 21, 3) := by decide +kernel
theorem dX9_become_14 : decode cX9_become 14 = .ok (.aload_n 0, 1) := by decide +kernel
theorem dX9_become_15 : decode cX9_become 15 = .ok (.getfield 19, 3) := by decide +kernel
theorem dX9_become_18 : decode cX9_become 18 = .ok (.iload_n 2, 1) := by decide +kernel
theorem dX9_become_19 : decode cX9_become 19 = .ok (.aload_n 0, 1) := by decide +kernel
theorem dX9_become_20 : decode cX9_become 20 = .ok (.getfield 73, 3) := by decide +kernel
theorem dX9_become_23 : decode cX9_become 23 = .ok (.iload_n 2, 1) := by decide +kernel
theorem dX9_become_24 : decode cX9_become 24 = .ok (.baload, 1) := by decide +kernel
theorem dX9_become_25 : decode cX9_become 25 = .ok (.bastore, 1) := by decide +kernel
theorem dX9_become_26 : decode cX9_become 26 = .ok (.iinc 2 1, 3) := by decide +kernel
theorem dX9_become_29 : decode cX9_become 29 = .ok (.goto (-22), 3) := by decide +kernel
theorem dX9_become_32 : decode cX9_become 32 = .ok (.aload_n 0, 1) := by decide +kernel
theorem dX9_become_33 : decode cX9_become 33 = .ok (.iconst 0, 1) := by decide +kernel
theorem dX9_become_34 : decode cX9_become 34 = .ok (.putfield 125, 3) := by decide +kernel
theorem dX9_become_37 : decode cX9_become 37 = .ok (.aload_n 0, 1) := by decide +kernel
theorem dX9_become_38 : decode cX9_become 38 = .ok (.iconst 0, 1) := by decide +kernel
theorem dX9_become_39 : decode cX9_become 39 = .ok (.putfield 129, 3) := by decide +kernel
theorem dX9_become_42 : decode cX9_become 42 = .ok (.return_, 1) := by decide +kernel
theorem dX9_clearNew_0 : decode cX9_clearNew 0 = .ok (.iconst 0, 1) := by decide +kernel
theorem dX9_clearNew_1 : decode cX9_clearNew 1 = .ok (.istore_n 1, 1) := by decide +kernel
theorem dX9_clearNew_2 : decode cX9_clearNew 2 = .ok (.iload_n 1, 1) := by decide +kernel
theorem dX9_clearNew_3 : decode cX9_clearNew 3 = .ok (.sipush 1024, 3) := by decide +kernel
theorem dX9_clearNew_6 : decode cX9_clearNew 6 = .ok (.if_icmp .ge 16, 3) := by decide +kernel
theorem dX9_clearNew_9 : decode cX9_clearNew 9 = .ok (.aload_n 0, 1) := by decide +kernel
theorem dX9_clearNew_10 : decode cX9_clearNew 10 = .ok (.getfield 73, 3) := by decide +kernel
theorem dX9_clearNew_13 : decode cX9_clearNew 13 = .ok (.iload_n 1, 1) := by decide +kernel
theorem dX9_clearNew_14 : decode cX9_clearNew 14 = .ok (.iconst 0, 1) := by decide +kernel
theorem dX9_clearNew_15 : decode cX9_clearNew 15 = .ok (.bastore, 1) := by decide +kernel
theorem dX9_clearNew_16 : decode cX9_clearNew 16 = .ok (.iinc 1 1, 3) := by decide +kernel
theorem dX9_clearNew_19 : decode cX9_clearNew 19 = .ok (.goto (-17), 3) := by decide +kernel
theorem dX9_clearNew_22 : decode cX9_clearNew 22 = .ok (.return_, 1) := by decide +kernel
theorem dX9_fold_0 : decode cX9_fold 0 = .ok (.aload_n 0, 1) := by decide +kernel
theorem dX9_fold_1 : decode cX9_fold 1 = .ok (.invokevirtual 226, 3) := by decide +kernel
theorem dX9_fold_4 : decode cX9_fold 4 = .ok (.ifCond .ne 6, 3) := by decide +kernel
theorem dX9_fold_7 : decode cX9_fold 7 = .ok (.bipush (-5), 2) := by decide +kernel
theorem dX9_fold_9 : decode cX9_fold 9 = .ok (.ireturn, 1) := by decide +kernel
theorem dX9_fold_10 : decode cX9_fold 10 = .ok (.iconst 0, 1) := by decide +kernel
theorem dX9_fold_11 : decode cX9_fold 11 = .ok (.istore_n 1, 1) := by decide +kernel
theorem dX9_fold_12 : decode cX9_fold 12 = .ok (.iconst 0, 1) := by decide +kernel
theorem dX9_fold_13 : decode cX9_fold 13 = .ok (.istore_n 2, 1) := by decide +kernel
theorem dX9_fold_14 : decode cX9_fold 14 = .ok (.iload_n 2, 1) := by decide +kernel
theorem dX9_fold_15 : decode cX9_fold 15 = .ok (.aload_n 0, 1) := by decide +kernel
theorem dX9_fold_16 : decode cX9_fold 16 = .ok (.getfield 116, 3) := by decide +kernel
theorem dX9_fold_19 : decode cX9_fold 19 = .ok (.if_icmp .ge 78, 3) := by decide +kernel
theorem dX9_fold_22 : decode cX9_fold 22 = .ok (.aload_n 0, 1) := by decide +kernel
theorem dX9_fold_23 : decode cX9_fold 23 = .ok (.getfield 76, 3) := by decide +kernel
theorem dX9_fold_26 : decode cX9_fold 26 = .ok (.iload_n 2, 1) := by decide +kernel
theorem dX9_fold_27 : decode cX9_fold 27 = .ok (.iconst (-1), 1) := by decide +kernel
theorem dX9_fold_28 : decode cX9_fold 28 = .ok (.iastore, 1) := by decide +kernel
theorem dX9_fold_29 : decode cX9_fold 29 = .ok (.iconst 0, 1) := by decide +kernel
theorem dX9_fold_30 : decode cX9_fold 30 = .ok (.istore_n 3, 1) := by decide +kernel
theorem dX9_fold_31 : decode cX9_fold 31 = .ok (.iload_n 3, 1) := by decide +kernel
theorem dX9_fold_32 : decode cX9_fold 32 = .ok (.iload_n 2, 1) := by decide +kernel
theorem dX9_fold_33 : decode cX9_fold 33 = .ok (.if_icmp .ge 39, 3) := by decide +kernel
theorem dX9_fold_36 : decode cX9_fold 36 = .ok (.aload_n 0, 1) := by decide +kernel
theorem dX9_fold_37 : decode cX9_fold 37 = .ok (.getfield 76, 3) := by decide +kernel
theorem dX9_fold_40 : decode cX9_fold 40 = .ok (.iload_n 2, 1) := by decide +kernel
theorem dX9_fold_41 : decode cX9_fold 41 = .ok (.aload_n 0, 1) := by decide +kernel
theorem dX9_fold_42 : decode cX9_fold 42 = .ok (.iload_n 2, 1) := by decide +kernel
theorem dX9_fold_43 : decode cX9_fold 43 = .ok (.iload_n 3, 1) := by decide +kernel
theorem dX9_fold_44 : decode cX9_fold 44 = .ok (.invokevirtual 199, 3) := by decide +kernel
theorem dX9_fold_47 : decode cX9_fold 47 = .ok (.ifCond .eq 12, 3) := by decide +kernel
theorem dX9_fold_50 : decode cX9_fold 50 = .ok (.aload_n 0, 1) := by decide +kernel
theorem dX9_fold_51 : decode cX9_fold 51 = .ok (.getfield 76, 3) := by decide +kernel
theorem dX9_fold_54 : decode cX9_fold 54 = .ok (.iload_n 3, 1) := by decide +kernel
theorem dX9_fold_55 : decode cX9_fold 55 = .ok (.iaload, 1) := by decide +kernel
theorem dX9_fold_56 : decode cX9_fold 56 = .ok (.goto 9, 3) := by decide +kernel
theorem dX9_fold_59 : decode cX9_fold 59 = .ok (.aload_n 0, 1) := by decide +kernel
theorem dX9_fold_60 : decode cX9_fold 60 = .ok (.getfield 76, 3) := by decide +kernel
theorem dX9_fold_63 : decode cX9_fold 63 = .ok (.iload_n 2, 1) := by decide +kernel
theorem dX9_fold_64 : decode cX9_fold 64 = .ok (.iaload, 1) := by decide +kernel
theorem dX9_fold_65 : decode cX9_fold 65 = .ok (.iastore, 1) := by decide +kernel
theorem dX9_fold_66 : decode cX9_fold 66 = .ok (.iinc 3 1, 3) := by decide +kernel
theorem dX9_fold_69 : decode cX9_fold 69 = .ok (.goto (-38), 3) := by decide +kernel
theorem dX9_fold_72 : decode cX9_fold 72 = .ok (.aload_n 0, 1) := by decide +kernel
theorem dX9_fold_73 : decode cX9_fold 73 = .ok (.getfield 76, 3) := by decide +kernel
theorem dX9_fold_76 : decode cX9_fold 76 = .ok (.iload_n 2, 1) := by decide +kernel
theorem dX9_fold_77 : decode cX9_fold 77 = .ok (.iaload, 1) := by decide +kernel
theorem dX9_fold_78 : decode cX9_fold 78 = .ok (.ifCond .ge 13, 3) := by decide +kernel
theorem dX9_fold_81 : decode cX9_fold 81 = .ok (.aload_n 0, 1) := by decide +kernel
theorem dX9_fold_82 : decode cX9_fold 82 = .ok (.getfield 76, 3) := by decide +kernel
theorem dX9_fold_85 : decode cX9_fold 85 = .ok (.iload_n 2, 1) := by decide +kernel
theorem dX9_fold_86 : decode cX9_fold 86 = .ok (.iload_n 1, 1) := by decide +kernel
theorem dX9_fold_87 : decode cX9_fold 87 = .ok (.iastore, 1) := by decide +kernel
theorem dX9_fold_88 : decode cX9_fold 88 = .ok (.iinc 1 1, 3) := by decide +kernel
theorem dX9_fold_91 : decode cX9_fold 91 = .ok (.iinc 2 1, 3) := by decide +kernel
theorem dX9_fold_94 : decode cX9_fold 94 = .ok (.goto (-80), 3) := by decide +kernel
theorem dX9_fold_97 : decode cX9_fold 97 = .ok (.aload_n 0, 1) := by decide +kernel
theorem dX9_fold_98 : decode cX9_fold 98 = .ok (.invokevirtual 285, 3) := by decide +kernel
theorem dX9_fold_101 : decode cX9_fold 101 = .ok (.iconst 0, 1) := by decide +kernel
theorem dX9_fold_102 : decode cX9_fold 102 = .ok (.istore_n 2, 1) := by decide +kernel
theorem dX9_fold_103 : decode cX9_fold 103 = .ok (.iload_n 2, 1) := by decide +kernel
theorem dX9_fold_104 : decode cX9_fold 104 = .ok (.aload_n 0, 1) := by decide +kernel
theorem dX9_fold_105 : decode cX9_fold 105 = .ok (.getfield 116, 3) := by decide +kernel
theorem dX9_fold_108 : decode cX9_fold 108 = .ok (.if_icmp .ge 76, 3) := by decide +kernel
theorem dX9_fold_111 : decode cX9_fold 111 = .ok (.iconst 0, 1) := by decide +kernel
theorem dX9_fold_112 : decode cX9_fold 112 = .ok (.istore_n 3, 1) := by decide +kernel
theorem dX9_fold_113 : decode cX9_fold 113 = .ok (.iload_n 3, 1) := by decide +kernel
theorem dX9_fold_114 : decode cX9_fold 114 = .ok (.aload_n 0, 1) := by decide +kernel
theorem dX9_fold_115 : decode cX9_fold 115 = .ok (.getfield 116, 3) := by decide +kernel
theorem dX9_fold_118 : decode cX9_fold 118 = .ok (.if_icmp .ge 60, 3) := by decide +kernel
theorem dX9_fold_121 : decode cX9_fold 121 = .ok (.aload_n 0, 1) := by decide +kernel
theorem dX9_fold_122 : decode cX9_fold 122 = .ok (.getfield 19, 3) := by decide +kernel
theorem dX9_fold_125 : decode cX9_fold 125 = .ok (.bipush 32, 2) := by decide +kernel
theorem dX9_fold_127 : decode cX9_fold 127 = .ok (.iload_n 2, 1) := by decide +kernel
theorem dX9_fold_128 : decode cX9_fold 128 = .ok (.imul, 1) := by decide +kernel
theorem dX9_fold_129 : decode cX9_fold 129 = .ok (.iload_n 3, 1) := by decide +kernel
theorem dX9_fold_130 : decode cX9_fold 130 = .ok (.iadd, 1) := by decide +kernel
theorem dX9_fold_131 : decode cX9_fold 131 = .ok (.baload, 1) := by decide +kernel
theorem dX9_fold_132 : decode cX9_fold 132 = .ok (.ifCond .eq 40, 3) := by decide +kernel
theorem dX9_fold_135 : decode cX9_fold 135 = .ok (.aload_n 0, 1) := by decide +kernel
theorem dX9_fold_136 : decode cX9_fold 136 = .ok (.getfield 76, 3) := by decide +kernel
theorem dX9_fold_139 : decode cX9_fold 139 = .ok (.iload_n 2, 1) := by decide +kernel
theorem dX9_fold_140 : decode cX9_fold 140 = .ok (.iaload, 1) := by decide +kernel
theorem dX9_fold_141 : decode cX9_fold 141 = .ok (.aload_n 0, 1) := by decide +kernel
theorem dX9_fold_142 : decode cX9_fold 142 = .ok (.getfield 76, 3) := by decide +kernel
theorem dX9_fold_145 : decode cX9_fold 145 = .ok (.iload_n 3, 1) := by decide +kernel
theorem dX9_fold_146 : decode cX9_fold 146 = .ok (.iaload, 1) := by decide +kernel
theorem dX9_fold_147 : decode cX9_fold 147 = .ok (.if_icmp .eq 25, 3) := by decide +kernel
theorem dX9_fold_150 : decode cX9_fold 150 = .ok (.aload_n 0, 1) := by decide +kernel
theorem dX9_fold_151 : decode cX9_fold 151 = .ok (.getfield 73, 3) := by decide +kernel
theorem dX9_fold_154 : decode cX9_fold 154 = .ok (.bipush 32, 2) := by decide +kernel
theorem dX9_fold_156 : decode cX9_fold 156 = .ok (.aload_n 0, 1) := by decide +kernel
theorem dX9_fold_157 : decode cX9_fold 157 = .ok (.getfield 76, 3) := by decide +kernel
theorem dX9_fold_160 : decode cX9_fold 160 = .ok (.iload_n 2, 1) := by decide +kernel
theorem dX9_fold_161 : decode cX9_fold 161 = .ok (.iaload, 1) := by decide +kernel
theorem dX9_fold_162 : decode cX9_fold 162 = .ok (.imul, 1) := by decide +kernel
theorem dX9_fold_163 : decode cX9_fold 163 = .ok (.aload_n 0, 1) := by decide +kernel
theorem dX9_fold_164 : decode cX9_fold 164 = .ok (.getfield 76, 3) := by decide +kernel
theorem dX9_fold_167 : decode cX9_fold 167 = .ok (.iload_n 3, 1) := by decide +kernel
theorem dX9_fold_168 : decode cX9_fold 168 = .ok (.iaload, 1) := by decide +kernel
theorem dX9_fold_169 : decode cX9_fold 169 = .ok (.iadd, 1) := by decide +kernel
theorem dX9_fold_170 : decode cX9_fold 170 = .ok (.iconst 1, 1) := by decide +kernel
theorem dX9_fold_171 : decode cX9_fold 171 = .ok (.bastore, 1) := by decide +kernel
theorem dX9_fold_172 : decode cX9_fold 172 = .ok (.iinc 3 1, 3) := by decide +kernel
theorem dX9_fold_175 : decode cX9_fold 175 = .ok (.goto (-62), 3) := by decide +kernel
theorem dX9_fold_178 : decode cX9_fold 178 = .ok (.iinc 2 1, 3) := by decide +kernel
theorem dX9_fold_181 : decode cX9_fold 181 = .ok (.goto (-78), 3) := by decide +kernel
theorem dX9_fold_184 : decode cX9_fold 184 = .ok (.aload_n 0, 1) := by decide +kernel
theorem dX9_fold_185 : decode cX9_fold 185 = .ok (.iload_n 1, 1) := by decide +kernel
theorem dX9_fold_186 : decode cX9_fold 186 = .ok (.invokevirtual 288, 3) := by decide +kernel
theorem dX9_fold_189 : decode cX9_fold 189 = .ok (.iload_n 1, 1) := by decide +kernel
theorem dX9_fold_190 : decode cX9_fold 190 = .ok (.ireturn, 1) := by decide +kernel
theorem dX9_half_0 : decode cX9_half 0 = .ok (.aload_n 0, 1) := by decide +kernel
theorem dX9_half_1 : decode cX9_half 1 = .ok (.invokevirtual 195, 3) := by decide +kernel
theorem dX9_half_4 : decode cX9_half 4 = .ok (.ifCond .eq 10, 3) := by decide +kernel
theorem dX9_half_7 : decode cX9_half 7 = .ok (.aload_n 0, 1) := by decide +kernel
theorem dX9_half_8 : decode cX9_half 8 = .ok (.invokevirtual 223, 3) := by decide +kernel
theorem dX9_half_11 : decode cX9_half 11 = .ok (.ifCond .ne 6, 3) := by decide +kernel
theorem dX9_half_14 : decode cX9_half 14 = .ok (.bipush (-5), 2) := by decide +kernel
theorem dX9_half_16 : decode cX9_half 16 = .ok (.ireturn, 1) := by decide +kernel
theorem dX9_half_17 : decode cX9_half 17 = .ok (.iconst 0, 1) := by decide +kernel
theorem dX9_half_18 : decode cX9_half 18 = .ok (.istore_n 1, 1) := by decide +kernel
theorem dX9_half_19 : decode cX9_half 19 = .ok (.iconst 0, 1) := by decide +kernel
theorem dX9_half_20 : decode cX9_half 20 = .ok (.istore_n 2, 1) := by decide +kernel
theorem dX9_half_21 : decode cX9_half 21 = .ok (.iload_n 2, 1) := by decide +kernel
theorem dX9_half_22 : decode cX9_half 22 = .ok (.aload_n 0, 1) := by decide +kernel
theorem dX9_half_23 : decode cX9_half 23 = .ok (.getfield 116, 3) := by decide +kernel
theorem dX9_half_26 : decode cX9_half 26 = .ok (.if_icmp .ge 50, 3) := by decide +kernel
theorem dX9_half_29 : decode cX9_half 29 = .ok (.aload_n 0, 1) := by decide +kernel
theorem dX9_half_30 : decode cX9_half 30 = .ok (.getfield 76, 3) := by decide +kernel
theorem dX9_half_33 : decode cX9_half 33 = .ok (.iload_n 2, 1) := by decide +kernel
theorem dX9_half_34 : decode cX9_half 34 = .ok (.aload_n 0, 1) := by decide +kernel
theorem dX9_half_35 : decode cX9_half 35 = .ok (.getfield 39, 3) := by decide +kernel
theorem dX9_half_38 : decode cX9_half 38 = .ok (.iload_n 2, 1) := by decide +kernel
theorem dX9_half_39 : decode cX9_half 39 = .ok (.iaload, 1) := by decide +kernel
theorem dX9_half_40 : decode cX9_half 40 = .ok (.iconst 2, 1) := by decide +kernel
theorem dX9_half_41 : decode cX9_half 41 = .ok (.irem, 1) := by decide +kernel
theorem dX9_half_42 : decode cX9_half 42 = .ok (.ifCond .ne 7, 3) := by decide +kernel
theorem dX9_half_45 : decode cX9_half 45 = .ok (.iload_n 1, 1) := by decide +kernel
theorem dX9_half_46 : decode cX9_half 46 = .ok (.goto 4, 3) := by decide +kernel
theorem dX9_half_49 : decode cX9_half 49 = .ok (.iconst (-1), 1) := by decide +kernel
theorem dX9_half_50 : decode cX9_half 50 = .ok (.iastore, 1) := by decide +kernel
theorem dX9_half_51 : decode cX9_half 51 = .ok (.iload_n 1, 1) := by decide +kernel
theorem dX9_half_52 : decode cX9_half 52 = .ok (.aload_n 0, 1) := by decide +kernel
theorem dX9_half_53 : decode cX9_half 53 = .ok (.getfield 39, 3) := by decide +kernel
theorem dX9_half_56 : decode cX9_half 56 = .ok (.iload_n 2, 1) := by decide +kernel
theorem dX9_half_57 : decode cX9_half 57 = .ok (.iaload, 1) := by decide +kernel
theorem dX9_half_58 : decode cX9_half 58 = .ok (.iconst 2, 1) := by decide +kernel
theorem dX9_half_59 : decode cX9_half 59 = .ok (.irem, 1) := by decide +kernel
theorem dX9_half_60 : decode cX9_half 60 = .ok (.ifCond .ne 7, 3) := by decide +kernel
theorem dX9_half_63 : decode cX9_half 63 = .ok (.iconst 1, 1) := by decide +kernel
theorem dX9_half_64 : decode cX9_half 64 = .ok (.goto 4, 3) := by decide +kernel
theorem dX9_half_67 : decode cX9_half 67 = .ok (.iconst 0, 1) := by decide +kernel
theorem dX9_half_68 : decode cX9_half 68 = .ok (.iadd, 1) := by decide +kernel
theorem dX9_half_69 : decode cX9_half 69 = .ok (.istore_n 1, 1) := by decide +kernel
theorem dX9_half_70 : decode cX9_half 70 = .ok (.iinc 2 1, 3) := by decide +kernel
theorem dX9_half_73 : decode cX9_half 73 = .ok (.goto (-52), 3) := by decide +kernel
theorem dX9_half_76 : decode cX9_half 76 = .ok (.aload_n 0, 1) := by decide +kernel
theorem dX9_half_77 : decode cX9_half 77 = .ok (.invokevirtual 285, 3) := by decide +kernel
theorem dX9_half_80 : decode cX9_half 80 = .ok (.iconst 0, 1) := by decide +kernel
theorem dX9_half_81 : decode cX9_half 81 = .ok (.istore_n 2, 1) := by decide +kernel
theorem dX9_half_82 : decode cX9_half 82 = .ok (.iload_n 2, 1) := by decide +kernel
theorem dX9_half_83 : decode cX9_half 83 = .ok (.aload_n 0, 1) := by decide +kernel
theorem dX9_half_84 : decode cX9_half 84 = .ok (.getfield 116, 3) := by decide +kernel
theorem dX9_half_87 : decode cX9_half 87 = .ok (.if_icmp .ge 80, 3) := by decide +kernel
theorem dX9_half_90 : decode cX9_half 90 = .ok (.iconst 0, 1) := by decide +kernel
theorem dX9_half_91 : decode cX9_half 91 = .ok (.istore_n 3, 1) := by decide +kernel
theorem dX9_half_92 : decode cX9_half 92 = .ok (.iload_n 3, 1) := by decide +kernel
theorem dX9_half_93 : decode cX9_half 93 = .ok (.aload_n 0, 1) := by decide +kernel
theorem dX9_half_94 : decode cX9_half 94 = .ok (.getfield 116, 3) := by decide +kernel
theorem dX9_half_97 : decode cX9_half 97 = .ok (.if_icmp .ge 64, 3) := by decide +kernel
theorem dX9_half_100 : decode cX9_half 100 = .ok (.aload_n 0, 1) := by decide +kernel
theorem dX9_half_101 : decode cX9_half 101 = .ok (.getfield 76, 3) := by decide +kernel
theorem dX9_half_104 : decode cX9_half 104 = .ok (.iload_n 2, 1) := by decide +kernel
theorem dX9_half_105 : decode cX9_half 105 = .ok (.iaload, 1) := by decide +kernel
theorem dX9_half_106 : decode cX9_half 106 = .ok (.ifCond .lt 49, 3) := by decide +kernel
theorem dX9_half_109 : decode cX9_half 109 = .ok (.aload_n 0, 1) := by decide +kernel
theorem dX9_half_110 : decode cX9_half 110 = .ok (.getfield 76, 3) := by decide +kernel
theorem dX9_half_113 : decode cX9_half 113 = .ok (.iload_n 3, 1) := by decide +kernel
theorem dX9_half_114 : decode cX9_half 114 = .ok (.iaload, 1) := by decide +kernel
theorem dX9_half_115 : decode cX9_half 115 = .ok (.ifCond .lt 40, 3) := by decide +kernel
theorem dX9_half_118 : decode cX9_half 118 = .ok (.aload_n 0, 1) := by decide +kernel
theorem dX9_half_119 : decode cX9_half 119 = .ok (.getfield 39, 3) := by decide +kernel
theorem dX9_half_122 : decode cX9_half 122 = .ok (.bipush 32, 2) := by decide +kernel
theorem dX9_half_124 : decode cX9_half 124 = .ok (.iload_n 2, 1) := by decide +kernel
theorem dX9_half_125 : decode cX9_half 125 = .ok (.imul, 1) := by decide +kernel
theorem dX9_half_126 : decode cX9_half 126 = .ok (.iload_n 3, 1) := by decide +kernel
theorem dX9_half_127 : decode cX9_half 127 = .ok (.iadd, 1) := by decide +kernel
theorem dX9_half_128 : decode cX9_half 128 = .ok (.iaload, 1) := by decide +kernel
theorem dX9_half_129 : decode cX9_half 129 = .ok (.iconst 2, 1) := by decide +kernel
theorem dX9_half_130 : decode cX9_half 130 = .ok (.if_icmp .ne 25, 3) := by decide +kernel
theorem dX9_half_133 : decode cX9_half 133 = .ok (.aload_n 0, 1) := by decide +kernel
theorem dX9_half_134 : decode cX9_half 134 = .ok (.getfield 73, 3) := by decide +kernel
theorem dX9_half_137 : decode cX9_half 137 = .ok (.bipush 32, 2) := by decide +kernel
theorem dX9_half_139 : decode cX9_half 139 = .ok (.aload_n 0, 1) := by decide +kernel
theorem dX9_half_140 : decode cX9_half 140 = .ok (.getfield 76, 3) := by decide +kernel
theorem dX9_half_143 : decode cX9_half 143 = .ok (.iload_n 2, 1) := by decide +kernel
theorem dX9_half_144 : decode cX9_half 144 = .ok (.iaload, 1) := by decide +kernel
theorem dX9_half_145 : decode cX9_half 145 = .ok (.imul, 1) := by decide +kernel
theorem dX9_half_146 : decode cX9_half 146 = .ok (.aload_n 0, 1) := by decide +kernel
theorem dX9_half_147 : decode cX9_half 147 = .ok (.getfield 76, 3) := by decide +kernel
theorem dX9_half_150 : decode cX9_half 150 = .ok (.iload_n 3, 1) := by decide +kernel
theorem dX9_half_151 : decode cX9_half 151 = .ok (.iaload, 1) := by decide +kernel
theorem dX9_half_152 : decode cX9_half 152 = .ok (.iadd, 1) := by decide +kernel
theorem dX9_half_153 : decode cX9_half 153 = .ok (.iconst 1, 1) := by decide +kernel
theorem dX9_half_154 : decode cX9_half 154 = .ok (.bastore, 1) := by decide +kernel
theorem dX9_half_155 : decode cX9_half 155 = .ok (.iinc 3 1, 3) := by decide +kernel
theorem dX9_half_158 : decode cX9_half 158 = .ok (.goto (-66), 3) := by decide +kernel
theorem dX9_half_161 : decode cX9_half 161 = .ok (.iinc 2 1, 3) := by decide +kernel
theorem dX9_half_164 : decode cX9_half 164 = .ok (.goto (-82), 3) := by decide +kernel
theorem dX9_half_167 : decode cX9_half 167 = .ok (.aload_n 0, 1) := by decide +kernel
theorem dX9_half_168 : decode cX9_half 168 = .ok (.iload_n 1, 1) := by decide +kernel
theorem dX9_half_169 : decode cX9_half 169 = .ok (.invokevirtual 288, 3) := by decide +kernel
theorem dX9_half_172 : decode cX9_half 172 = .ok (.iload_n 1, 1) := by decide +kernel
theorem dX9_half_173 : decode cX9_half 173 = .ok (.ireturn, 1) := by decide +kernel
theorem dX9_twice_0 : decode cX9_twice 0 = .ok (.iconst 2, 1) := by decide +kernel
theorem dX9_twice_1 : decode cX9_twice 1 = .ok (.aload_n 0, 1) := by decide +kernel
theorem dX9_twice_2 : decode cX9_twice 2 = .ok (.getfield 116, 3) := by decide +kernel
theorem dX9_twice_5 : decode cX9_twice 5 = .ok (.imul, 1) := by decide +kernel
theorem dX9_twice_6 : decode cX9_twice 6 = .ok (.bipush 32, 2) := by decide +kernel
theorem dX9_twice_8 : decode cX9_twice 8 = .ok (.if_icmp .le 6, 3) := by decide +kernel
theorem dX9_twice_11 : decode cX9_twice 11 = .ok (.bipush (-2), 2) := by decide +kernel
theorem dX9_twice_13 : decode cX9_twice 13 = .ok (.ireturn, 1) := by decide +kernel
theorem dX9_twice_14 : decode cX9_twice 14 = .ok (.aload_n 0, 1) := by decide +kernel
theorem dX9_twice_15 : decode cX9_twice 15 = .ok (.invokevirtual 285, 3) := by decide +kernel
theorem dX9_twice_18 : decode cX9_twice 18 = .ok (.iconst 0, 1) := by decide +kernel
theorem dX9_twice_19 : decode cX9_twice 19 = .ok (.istore_n 1, 1) := by decide +kernel
theorem dX9_twice_20 : decode cX9_twice 20 = .ok (.iload_n 1, 1) := by decide +kernel
theorem dX9_twice_21 : decode cX9_twice 21 = .ok (.aload_n 0, 1) := by decide +kernel
theorem dX9_twice_22 : decode cX9_twice 22 = .ok (.getfield 116, 3) := by decide +kernel
theorem dX9_twice_25 : decode cX9_twice 25 = .ok (.if_icmp .ge 73, 3) := by decide +kernel
theorem dX9_twice_28 : decode cX9_twice 28 = .ok (.iconst 0, 1) := by decide +kernel
theorem dX9_twice_29 : decode cX9_twice 29 = .ok (.istore_n 2, 1) := by decide +kernel
theorem dX9_twice_30 : decode cX9_twice 30 = .ok (.iload_n 2, 1) := by decide +kernel
theorem dX9_twice_31 : decode cX9_twice 31 = .ok (.aload_n 0, 1) := by decide +kernel
theorem dX9_twice_32 : decode cX9_twice 32 = .ok (.getfield 116, 3) := by decide +kernel
theorem dX9_twice_35 : decode cX9_twice 35 = .ok (.if_icmp .ge 57, 3) := by decide +kernel
theorem dX9_twice_38 : decode cX9_twice 38 = .ok (.aload_n 0, 1) := by decide +kernel
theorem dX9_twice_39 : decode cX9_twice 39 = .ok (.getfield 19, 3) := by decide +kernel
theorem dX9_twice_42 : decode cX9_twice 42 = .ok (.bipush 32, 2) := by decide +kernel
theorem dX9_twice_44 : decode cX9_twice 44 = .ok (.iload_n 1, 1) := by decide +kernel
theorem dX9_twice_45 : decode cX9_twice 45 = .ok (.imul, 1) := by decide +kernel
theorem dX9_twice_46 : decode cX9_twice 46 = .ok (.iload_n 2, 1) := by decide +kernel
theorem dX9_twice_47 : decode cX9_twice 47 = .ok (.iadd, 1) := by decide +kernel
theorem dX9_twice_48 : decode cX9_twice 48 = .ok (.baload, 1) := by decide +kernel
theorem dX9_twice_49 : decode cX9_twice 49 = .ok (.ifCond .eq 37, 3) := by decide +kernel
theorem dX9_twice_52 : decode cX9_twice 52 = .ok (.aload_n 0, 1) := by decide +kernel
theorem dX9_twice_53 : decode cX9_twice 53 = .ok (.getfield 73, 3) := by decide +kernel
theorem dX9_twice_56 : decode cX9_twice 56 = .ok (.bipush 32, 2) := by decide +kernel
theorem dX9_twice_58 : decode cX9_twice 58 = .ok (.iload_n 1, 1) := by decide +kernel
theorem dX9_twice_59 : decode cX9_twice 59 = .ok (.imul, 1) := by decide +kernel
theorem dX9_twice_60 : decode cX9_twice 60 = .ok (.aload_n 0, 1) := by decide +kernel
theorem dX9_twice_61 : decode cX9_twice 61 = .ok (.getfield 116, 3) := by decide +kernel
theorem dX9_twice_64 : decode cX9_twice 64 = .ok (.iadd, 1) := by decide +kernel
theorem dX9_twice_65 : decode cX9_twice 65 = .ok (.iload_n 2, 1) := by decide +kernel
theorem dX9_twice_66 : decode cX9_twice 66 = .ok (.iadd, 1) := by decide +kernel
theorem dX9_twice_67 : decode cX9_twice 67 = .ok (.iconst 1, 1) := by decide +kernel
theorem dX9_twice_68 : decode cX9_twice 68 = .ok (.bastore, 1) := by decide +kernel
theorem dX9_twice_69 : decode cX9_twice 69 = .ok (.aload_n 0, 1) := by decide +kernel
theorem dX9_twice_70 : decode cX9_twice 70 = .ok (.getfield 73, 3) := by decide +kernel
theorem dX9_twice_73 : decode cX9_twice 73 = .ok (.bipush 32, 2) := by decide +kernel
theorem dX9_twice_75 : decode cX9_twice 75 = .ok (.aload_n 0, 1) := by decide +kernel
theorem dX9_twice_76 : decode cX9_twice 76 = .ok (.getfield 116, 3) := by decide +kernel
theorem dX9_twice_79 : decode cX9_twice 79 = .ok (.iload_n 2, 1) := by decide +kernel
theorem dX9_twice_80 : decode cX9_twice 80 = .ok (.iadd, 1) := by decide +kernel
theorem dX9_twice_81 : decode cX9_twice 81 = .ok (.imul, 1) := by decide +kernel
theorem dX9_twice_82 : decode cX9_twice 82 = .ok (.iload_n 1, 1) := by decide +kernel
theorem dX9_twice_83 : decode cX9_twice 83 = .ok (.iadd, 1) := by decide +kernel
theorem dX9_twice_84 : decode cX9_twice 84 = .ok (.iconst 1, 1) := by decide +kernel
theorem dX9_twice_85 : decode cX9_twice 85 = .ok (.bastore, 1) := by decide +kernel
theorem dX9_twice_86 : decode cX9_twice 86 = .ok (.iinc 2 1, 3) := by decide +kernel
theorem dX9_twice_89 : decode cX9_twice 89 = .ok (.goto (-59), 3) := by decide +kernel
theorem dX9_twice_92 : decode cX9_twice 92 = .ok (.iinc 1 1, 3) := by decide +kernel
theorem dX9_twice_95 : decode cX9_twice 95 = .ok (.goto (-75), 3) := by decide +kernel
theorem dX9_twice_98 : decode cX9_twice 98 = .ok (.aload_n 0, 1) := by decide +kernel
theorem dX9_twice_99 : decode cX9_twice 99 = .ok (.iconst 2, 1) := by decide +kernel
theorem dX9_twice_100 : decode cX9_twice 100 = .ok (.aload_n 0, 1) := by decide +kernel
theorem dX9_twice_101 : decode cX9_twice 101 = .ok (.getfield 116, 3) := by decide +kernel
theorem dX9_twice_104 : decode cX9_twice 104 = .ok (.imul, 1) := by decide +kernel
theorem dX9_twice_105 : decode cX9_twice 105 = .ok (.invokevirtual 288, 3) := by decide +kernel
theorem dX9_twice_108 : decode cX9_twice 108 = .ok (.aload_n 0, 1) := by decide +kernel
theorem dX9_twice_109 : decode cX9_twice 109 = .ok (.getfield 116, 3) := by decide +kernel
theorem dX9_twice_112 : decode cX9_twice 112 = .ok (.ireturn, 1) := by decide +kernel
theorem dX9_power__0 : decode cX9_power_ 0 = .ok (.iload_n 1, 1) := by decide +kernel
theorem dX9_power__1 : decode cX9_power_ 1 = .ok (.iconst 1, 1) := by decide +kernel
theorem dX9_power__2 : decode cX9_power_ 2 = .ok (.if_icmp .ge 5, 3) := by decide +kernel
theorem dX9_power__5 : decode cX9_power_ 5 = .ok (.iconst (-1), 1) := by decide +kernel
theorem dX9_power__6 : decode cX9_power_ 6 = .ok (.ireturn, 1) := by decide +kernel
theorem dX9_power__7 : decode cX9_power_ 7 = .ok (.aload_n 0, 1) := by decide +kernel
theorem dX9_power__8 : decode cX9_power_ 8 = .ok (.invokevirtual 186, 3) := by decide +kernel
theorem dX9_power__11 : decode cX9_power_ 11 = .ok (.aload_n 0, 1) := by decide +kernel
theorem dX9_power__12 : decode cX9_power_ 12 = .ok (.invokevirtual 285, 3) := by decide +kernel
theorem dX9_power__15 : decode cX9_power_ 15 = .ok (.iconst 0, 1) := by decide +kernel
theorem dX9_power__16 : decode cX9_power_ 16 = .ok (.istore_n 2, 1) := by decide +kernel
theorem dX9_power__17 : decode cX9_power_ 17 = .ok (.iload_n 2, 1) := by decide +kernel
theorem dX9_power__18 : decode cX9_power_ 18 = .ok (.aload_n 0, 1) := by decide +kernel
theorem dX9_power__19 : decode cX9_power_ 19 = .ok (.getfield 116, 3) := by decide +kernel
theorem dX9_power__22 : decode cX9_power_ 22 = .ok (.if_icmp .ge 72, 3) := by decide +kernel
theorem dX9_power__25 : decode cX9_power_ 25 = .ok (.iconst 0, 1) := by decide +kernel
theorem dX9_power__26 : decode cX9_power_ 26 = .ok (.istore_n 3, 1) := by decide +kernel
theorem dX9_power__27 : decode cX9_power_ 27 = .ok (.iload_n 3, 1) := by decide +kernel
theorem dX9_power__28 : decode cX9_power_ 28 = .ok (.aload_n 0, 1) := by decide +kernel
theorem dX9_power__29 : decode cX9_power_ 29 = .ok (.getfield 116, 3) := by decide +kernel
theorem dX9_power__32 : decode cX9_power_ 32 = .ok (.if_icmp .ge 56, 3) := by decide +kernel
theorem dX9_power__35 : decode cX9_power_ 35 = .ok (.aload_n 0, 1) := by decide +kernel
theorem dX9_power__36 : decode cX9_power_ 36 = .ok (.getfield 73, 3) := by decide +kernel
theorem dX9_power__39 : decode cX9_power_ 39 = .ok (.bipush 32, 2) := by decide +kernel
theorem dX9_power__41 : decode cX9_power_ 41 = .ok (.iload_n 2, 1) := by decide +kernel
theorem dX9_power__42 : decode cX9_power_ 42 = .ok (.imul, 1) := by decide +kernel
theorem dX9_power__43 : decode cX9_power_ 43 = .ok (.iload_n 3, 1) := by decide +kernel
theorem dX9_power__44 : decode cX9_power_ 44 = .ok (.iadd, 1) := by decide +kernel
theorem dX9_power__45 : decode cX9_power_ 45 = .ok (.aload_n 0, 1) := by decide +kernel
theorem dX9_power__46 : decode cX9_power_ 46 = .ok (.getfield 39, 3) := by decide +kernel
theorem dX9_power__49 : decode cX9_power_ 49 = .ok (.bipush 32, 2) := by decide +kernel
theorem dX9_power__51 : decode cX9_power_ 51 = .ok (.iload_n 2, 1) := by decide +kernel
theorem dX9_power__52 : decode cX9_power_ 52 = .ok (.imul, 1) := by decide +kernel
theorem dX9_power__53 : decode cX9_power_ 53 = .ok (.iload_n 3, 1) := by decide +kernel
theorem dX9_power__54 : decode cX9_power_ 54 = .ok (.iadd, 1) := by decide +kernel
theorem dX9_power__55 : decode cX9_power_ 55 = .ok (.iaload, 1) := by decide +kernel
theorem dX9_power__56 : decode cX9_power_ 56 = .ok (.bipush 99, 2) := by decide +kernel
theorem dX9_power__58 : decode cX9_power_ 58 = .ok (.if_icmp .eq 22, 3) := by decide +kernel
theorem dX9_power__61 : decode cX9_power_ 61 = .ok (.aload_n 0, 1) := by decide +kernel
theorem dX9_power__62 : decode cX9_power_ 62 = .ok (.getfield 39, 3) := by decide +kernel
theorem dX9_power__65 : decode cX9_power_ 65 = .ok (.bipush 32, 2) := by decide +kernel
theorem dX9_power__67 : decode cX9_power_ 67 = .ok (.iload_n 2, 1) := by decide +kernel
theorem dX9_power__68 : decode cX9_power_ 68 = .ok (.imul, 1) := by decide +kernel
theorem dX9_power__69 : decode cX9_power_ 69 = .ok (.iload_n 3, 1) := by decide +kernel
theorem dX9_power__70 : decode cX9_power_ 70 = .ok (.iadd, 1) := by decide +kernel
theorem dX9_power__71 : decode cX9_power_ 71 = .ok (.iaload, 1) := by decide +kernel
theorem dX9_power__72 : decode cX9_power_ 72 = .ok (.iload_n 1, 1) := by decide +kernel
theorem dX9_power__73 : decode cX9_power_ 73 = .ok (.if_icmp .ne 7, 3) := by decide +kernel
theorem dX9_power__76 : decode cX9_power_ 76 = .ok (.iconst 1, 1) := by decide +kernel
theorem dX9_power__77 : decode cX9_power_ 77 = .ok (.goto 4, 3) := by decide +kernel
theorem dX9_power__80 : decode cX9_power_ 80 = .ok (.iconst 0, 1) := by decide +kernel
theorem dX9_power__81 : decode cX9_power_ 81 = .ok (.bastore, 1) := by decide +kernel
theorem dX9_power__82 : decode cX9_power_ 82 = .ok (.iinc 3 1, 3) := by decide +kernel
theorem dX9_power__85 : decode cX9_power_ 85 = .ok (.goto (-58), 3) := by decide +kernel
theorem dX9_power__88 : decode cX9_power_ 88 = .ok (.iinc 2 1, 3) := by decide +kernel
theorem dX9_power__91 : decode cX9_power_ 91 = .ok (.goto (-74), 3) := by decide +kernel
theorem dX9_power__94 : decode cX9_power_ 94 = .ok (.aload_n 0, 1) := by decide +kernel
theorem dX9_power__95 : decode cX9_power_ 95 = .ok (.aload_n 0, 1) := by decide +kernel
theorem dX9_power__96 : decode cX9_power_ 96 = .ok (.getfield 116, 3) := by decide +kernel
theorem dX9_power__99 : decode cX9_power_ 99 = .ok (.invokevirtual 288, 3) := by decide +kernel
theorem dX9_power__102 : decode cX9_power_ 102 = .ok (.aload_n 0, 1) := by decide +kernel
theorem dX9_power__103 : decode cX9_power_ 103 = .ok (.invokevirtual 213, 3) := by decide +kernel
theorem dX9_power__106 : decode cX9_power_ 106 = .ok (.ireturn, 1) := by decide +kernel
theorem dX9_other_0 : decode cX9_other 0 = .ok (.aload_n 0, 1) := by decide +kernel
theorem dX9_other_1 : decode cX9_other 1 = .ok (.invokevirtual 285, 3) := by decide +kernel
theorem dX9_other_4 : decode cX9_other 4 = .ok (.iconst 0, 1) := by decide +kernel
theorem dX9_other_5 : decode cX9_other 5 = .ok (.istore_n 1, 1) := by decide +kernel
theorem dX9_other_6 : decode cX9_other 6 = .ok (.iload_n 1, 1) := by decide +kernel
theorem dX9_other_7 : decode cX9_other 7 = .ok (.aload_n 0, 1) := by decide +kernel
theorem dX9_other_8 : decode cX9_other 8 = .ok (.getfield 116, 3) := by decide +kernel
theorem dX9_other_11 : decode cX9_other 11 = .ok (.if_icmp .ge 60, 3) := by decide +kernel
theorem dX9_other_14 : decode cX9_other 14 = .ok (.iconst 0, 1) := by decide +kernel
theorem dX9_other_15 : decode cX9_other 15 = .ok (.istore_n 2, 1) := by decide +kernel
theorem dX9_other_16 : decode cX9_other 16 = .ok (.iload_n 2, 1) := by decide +kernel
theorem dX9_other_17 : decode cX9_other 17 = .ok (.aload_n 0, 1) := by decide +kernel
theorem dX9_other_18 : decode cX9_other 18 = .ok (.getfield 116, 3) := by decide +kernel
theorem dX9_other_21 : decode cX9_other 21 = .ok (.if_icmp .ge 44, 3) := by decide +kernel
theorem dX9_other_24 : decode cX9_other 24 = .ok (.aload_n 0, 1) := by decide +kernel
theorem dX9_other_25 : decode cX9_other 25 = .ok (.getfield 73, 3) := by decide +kernel
theorem dX9_other_28 : decode cX9_other 28 = .ok (.bipush 32, 2) := by decide +kernel
theorem dX9_other_30 : decode cX9_other 30 = .ok (.iload_n 1, 1) := by decide +kernel
theorem dX9_other_31 : decode cX9_other 31 = .ok (.imul, 1) := by decide +kernel
theorem dX9_other_32 : decode cX9_other 32 = .ok (.iload_n 2, 1) := by decide +kernel
theorem dX9_other_33 : decode cX9_other 33 = .ok (.iadd, 1) := by decide +kernel
theorem dX9_other_34 : decode cX9_other 34 = .ok (.iload_n 1, 1) := by decide +kernel
theorem dX9_other_35 : decode cX9_other 35 = .ok (.iload_n 2, 1) := by decide +kernel
theorem dX9_other_36 : decode cX9_other 36 = .ok (.if_icmp .eq 21, 3) := by decide +kernel
theorem dX9_other_39 : decode cX9_other 39 = .ok (.aload_n 0, 1) := by decide +kernel
theorem dX9_other_40 : decode cX9_other 40 = .ok (.getfield 19, 3) := by decide +kernel
theorem dX9_other_43 : decode cX9_other 43 = .ok (.bipush 32, 2) := by decide +kernel
theorem dX9_other_45 : decode cX9_other 45 = .ok (.iload_n 1, 1) := by decide +kernel
theorem dX9_other_46 : decode cX9_other 46 = .ok (.imul, 1) := by decide +kernel
theorem dX9_other_47 : decode cX9_other 47 = .ok (.iload_n 2, 1) := by decide +kernel
theorem dX9_other_48 : decode cX9_other 48 = .ok (.iadd, 1) := by decide +kernel
theorem dX9_other_49 : decode cX9_other 49 = .ok (.baload, 1) := by decide +kernel
theorem dX9_other_50 : decode cX9_other 50 = .ok (.ifCond .ne 7, 3) := by decide +kernel
theorem dX9_other_53 : decode cX9_other 53 = .ok (.iconst 1, 1) := by decide +kernel
theorem dX9_other_54 : decode cX9_other 54 = .ok (.goto 4, 3) := by decide +kernel
theorem dX9_other_57 : decode cX9_other 57 = .ok (.iconst 0, 1) := by decide +kernel
theorem dX9_other_58 : decode cX9_other 58 = .ok (.bastore, 1) := by decide +kernel
theorem dX9_other_59 : decode cX9_other 59 = .ok (.iinc 2 1, 3) := by decide +kernel
theorem dX9_other_62 : decode cX9_other 62 = .ok (.goto (-46), 3) := by decide +kernel
theorem dX9_other_65 : decode cX9_other 65 = .ok (.iinc 1 1, 3) := by decide +kernel
theorem dX9_other_68 : decode cX9_other 68 = .ok (.goto (-62), 3) := by decide +kernel
theorem dX9_other_71 : decode cX9_other 71 = .ok (.aload_n 0, 1) := by decide +kernel
theorem dX9_other_72 : decode cX9_other 72 = .ok (.aload_n 0, 1) := by decide +kernel
theorem dX9_other_73 : decode cX9_other 73 = .ok (.getfield 116, 3) := by decide +kernel
theorem dX9_other_76 : decode cX9_other 76 = .ok (.invokevirtual 288, 3) := by decide +kernel
theorem dX9_other_79 : decode cX9_other 79 = .ok (.aload_n 0, 1) := by decide +kernel
theorem dX9_other_80 : decode cX9_other 80 = .ok (.invokevirtual 213, 3) := by decide +kernel
theorem dX9_other_83 : decode cX9_other 83 = .ok (.ireturn, 1) := by decide +kernel
theorem dX9_lines_0 : decode cX9_lines 0 = .ok (.aload_n 0, 1) := by decide +kernel
theorem dX9_lines_1 : decode cX9_lines 1 = .ok (.invokevirtual 213, 3) := by decide +kernel
theorem dX9_lines_4 : decode cX9_lines 4 = .ok (.bipush 32, 2) := by decide +kernel
theorem dX9_lines_6 : decode cX9_lines 6 = .ok (.if_icmp .le 6, 3) := by decide +kernel
theorem dX9_lines_9 : decode cX9_lines 9 = .ok (.bipush (-2), 2) := by decide +kernel
theorem dX9_lines_11 : decode cX9_lines 11 = .ok (.ireturn, 1) := by decide +kernel
theorem dX9_lines_12 : decode cX9_lines 12 = .ok (.iconst 0, 1) := by decide +kernel
theorem dX9_lines_13 : decode cX9_lines 13 = .ok (.istore_n 1, 1) := by decide +kernel
theorem dX9_lines_14 : decode cX9_lines 14 = .ok (.iconst 0, 1) := by decide +kernel
theorem dX9_lines_15 : decode cX9_lines 15 = .ok (.istore_n 2, 1) := by decide +kernel
theorem dX9_lines_16 : decode cX9_lines 16 = .ok (.iload_n 2, 1) := by decide +kernel
theorem dX9_lines_17 : decode cX9_lines 17 = .ok (.aload_n 0, 1) := by decide +kernel
theorem dX9_lines_18 : decode cX9_lines 18 = .ok (.getfield 116, 3) := by decide +kernel
theorem dX9_lines_21 : decode cX9_lines 21 = .ok (.if_icmp .ge 58, 3) := by decide +kernel
theorem dX9_lines_24 : decode cX9_lines 24 = .ok (.iload_n 2, 1) := by decide +kernel
theorem dX9_lines_25 : decode cX9_lines 25 = .ok (.iconst 1, 1) := by decide +kernel
theorem dX9_lines_26 : decode cX9_lines 26 = .ok (.iadd, 1) := by decide +kernel
theorem dX9_lines_27 : decode cX9_lines 27 = .ok (.istore_n 3, 1) := by decide +kernel
theorem dX9_lines_28 : decode cX9_lines 28 = .ok (.iload_n 3, 1) := by decide +kernel
theorem dX9_lines_29 : decode cX9_lines 29 = .ok (.aload_n 0, 1) := by decide +kernel
theorem dX9_lines_30 : decode cX9_lines 30 = .ok (.getfield 116, 3) := by decide +kernel
theorem dX9_lines_33 : decode cX9_lines 33 = .ok (.if_icmp .ge 40, 3) := by decide +kernel
theorem dX9_lines_36 : decode cX9_lines 36 = .ok (.aload_n 0, 1) := by decide +kernel
theorem dX9_lines_37 : decode cX9_lines 37 = .ok (.getfield 19, 3) := by decide +kernel
theorem dX9_lines_40 : decode cX9_lines 40 = .ok (.bipush 32, 2) := by decide +kernel
theorem dX9_lines_42 : decode cX9_lines 42 = .ok (.iload_n 2, 1) := by decide +kernel
theorem dX9_lines_43 : decode cX9_lines 43 = .ok (.imul, 1) := by decide +kernel
theorem dX9_lines_44 : decode cX9_lines 44 = .ok (.iload_n 3, 1) := by decide +kernel
theorem dX9_lines_45 : decode cX9_lines 45 = .ok (.iadd, 1) := by decide +kernel
theorem dX9_lines_46 : decode cX9_lines 46 = .ok (.baload, 1) := by decide +kernel
theorem dX9_lines_47 : decode cX9_lines 47 = .ok (.ifCond .eq 20, 3) := by decide +kernel
theorem dX9_lines_50 : decode cX9_lines 50 = .ok (.aload_n 0, 1) := by decide +kernel
theorem dX9_lines_51 : decode cX9_lines 51 = .ok (.getfield 79, 3) := by decide +kernel
theorem dX9_lines_54 : decode cX9_lines 54 = .ok (.iload_n 1, 1) := by decide +kernel
theorem dX9_lines_55 : decode cX9_lines 55 = .ok (.iload_n 2, 1) := by decide +kernel
theorem dX9_lines_56 : decode cX9_lines 56 = .ok (.iastore, 1) := by decide +kernel
theorem dX9_lines_57 : decode cX9_lines 57 = .ok (.aload_n 0, 1) := by decide +kernel
theorem dX9_lines_58 : decode cX9_lines 58 = .ok (.getfield 82, 3) := by decide +kernel
theorem dX9_lines_61 : decode cX9_lines 61 = .ok (.iload_n 1, 1) := by decide +kernel
theorem dX9_lines_62 : decode cX9_lines 62 = .ok (.iload_n 3, 1) := by decide +kernel
theorem dX9_lines_63 : decode cX9_lines 63 = .ok (.iastore, 1) := by decide +kernel
theorem dX9_lines_64 : decode cX9_lines 64 = .ok (.iinc 1 1, 3) := by decide +kernel
theorem dX9_lines_67 : decode cX9_lines 67 = .ok (.iinc 3 1, 3) := by decide +kernel
theorem dX9_lines_70 : decode cX9_lines 70 = .ok (.goto (-42), 3) := by decide +kernel
theorem dX9_lines_73 : decode cX9_lines 73 = .ok (.iinc 2 1, 3) := by decide +kernel
theorem dX9_lines_76 : decode cX9_lines 76 = .ok (.goto (-60), 3) := by decide +kernel
theorem dX9_lines_79 : decode cX9_lines 79 = .ok (.aload_n 0, 1) := by decide +kernel
theorem dX9_lines_80 : decode cX9_lines 80 = .ok (.invokevirtual 285, 3) := by decide +kernel
theorem dX9_lines_83 : decode cX9_lines 83 = .ok (.iconst 0, 1) := by decide +kernel
theorem dX9_lines_84 : decode cX9_lines 84 = .ok (.istore_n 2, 1) := by decide +kernel
theorem dX9_lines_85 : decode cX9_lines 85 = .ok (.iload_n 2, 1) := by decide +kernel
theorem dX9_lines_86 : decode cX9_lines 86 = .ok (.iload_n 1, 1) := by decide +kernel
theorem dX9_lines_87 : decode cX9_lines 87 = .ok (.if_icmp .ge 115, 3) := by decide +kernel
theorem dX9_lines_90 : decode cX9_lines 90 = .ok (.iconst 0, 1) := by decide +kernel
theorem dX9_lines_91 : decode cX9_lines 91 = .ok (.istore_n 3, 1) := by decide +kernel
theorem dX9_lines_92 : decode cX9_lines 92 = .ok (.iload_n 3, 1) := by decide +kernel
theorem dX9_lines_93 : decode cX9_lines 93 = .ok (.iload_n 1, 1) := by decide +kernel
theorem dX9_lines_94 : decode cX9_lines 94 = .ok (.if_icmp .ge 102, 3) := by decide +kernel
theorem dX9_lines_97 : decode cX9_lines 97 = .ok (.aload_n 0, 1) := by decide +kernel
theorem dX9_lines_98 : decode cX9_lines 98 = .ok (.getfield 79, 3) := by decide +kernel
theorem dX9_lines_101 : decode cX9_lines 101 = .ok (.iload_n 2, 1) := by decide +kernel
theorem dX9_lines_102 : decode cX9_lines 102 = .ok (.iaload, 1) := by decide +kernel
theorem dX9_lines_103 : decode cX9_lines 103 = .ok (.aload_n 0, 1) := by decide +kernel
theorem dX9_lines_104 : decode cX9_lines 104 = .ok (.getfield 79, 3) := by decide +kernel
theorem dX9_lines_107 : decode cX9_lines 107 = .ok (.iload_n 3, 1) := by decide +kernel
theorem dX9_lines_108 : decode cX9_lines 108 = .ok (.iaload, 1) := by decide +kernel
theorem dX9_lines_109 : decode cX9_lines 109 = .ok (.if_icmp .eq 48, 3) := by decide +kernel
theorem dX9_lines_112 : decode cX9_lines 112 = .ok (.aload_n 0, 1) := by decide +kernel
theorem dX9_lines_113 : decode cX9_lines 113 = .ok (.getfield 79, 3) := by decide +kernel
theorem dX9_lines_116 : decode cX9_lines 116 = .ok (.iload_n 2, 1) := by decide +kernel
theorem dX9_lines_117 : decode cX9_lines 117 = .ok (.iaload, 1) := by decide +kernel
theorem dX9_lines_118 : decode cX9_lines 118 = .ok (.aload_n 0, 1) := by decide +kernel
theorem dX9_lines_119 : decode cX9_lines 119 = .ok (.getfield 82, 3) := by decide +kernel
theorem dX9_lines_122 : decode cX9_lines 122 = .ok (.iload_n 3, 1) := by decide +kernel
theorem dX9_lines_123 : decode cX9_lines 123 = .ok (.iaload, 1) := by decide +kernel
theorem dX9_lines_124 : decode cX9_lines 124 = .ok (.if_icmp .eq 33, 3) := by decide +kernel
theorem dX9_lines_127 : decode cX9_lines 127 = .ok (.aload_n 0, 1) := by decide +kernel
theorem dX9_lines_128 : decode cX9_lines 128 = .ok (.getfield 82, 3) := by decide +kernel
theorem dX9_lines_131 : decode cX9_lines 131 = .ok (.iload_n 2, 1) := by decide +kernel
theorem dX9_lines_132 : decode cX9_lines 132 = .ok (.iaload, 1) := by decide +kernel
theorem dX9_lines_133 : decode cX9_lines 133 = .ok (.aload_n 0, 1) := by decide +kernel
theorem dX9_lines_134 : decode cX9_lines 134 = .ok (.getfield 79, 3) := by decide +kernel
theorem dX9_lines_137 : decode cX9_lines 137 = .ok (.iload_n 3, 1) := by decide +kernel
theorem dX9_lines_138 : decode cX9_lines 138 = .ok (.iaload, 1) := by decide +kernel
theorem dX9_lines_139 : decode cX9_lines 139 = .ok (.if_icmp .eq 18, 3) := by decide +kernel
theorem dX9_lines_142 : decode cX9_lines 142 = .ok (.aload_n 0, 1) := by decide +kernel
theorem dX9_lines_143 : decode cX9_lines 143 = .ok (.getfield 82, 3) := by decide +kernel
theorem dX9_lines_146 : decode cX9_lines 146 = .ok (.iload_n 2, 1) := by decide +kernel
theorem dX9_lines_147 : decode cX9_lines 147 = .ok (.iaload, 1) := by decide +kernel
theorem dX9_lines_148 : decode cX9_lines 148 = .ok (.aload_n 0, 1) := by decide +kernel
theorem dX9_lines_149 : decode cX9_lines 149 = .ok (.getfield 82, 3) := by decide +kernel
theorem dX9_lines_152 : decode cX9_lines 152 = .ok (.iload_n 3, 1) := by decide +kernel
theorem dX9_lines_153 : decode cX9_lines 153 = .ok (.iaload, 1) := by decide +kernel
theorem dX9_lines_154 : decode cX9_lines 154 = .ok (.if_icmp .ne 7, 3) := by decide +kernel
theorem dX9_lines_157 : decode cX9_lines 157 = .ok (.iconst 1, 1) := by decide +kernel
theorem dX9_lines_158 : decode cX9_lines 158 = .ok (.goto 4, 3) := by decide +kernel
theorem dX9_lines_161 : decode cX9_lines 161 = .ok (.iconst 0, 1) := by decide +kernel
theorem dX9_lines_162 : decode cX9_lines 162 = .ok (.istore 4, 2) := by decide +kernel
theorem dX9_lines_164 : decode cX9_lines 164 = .ok (.aload_n 0, 1) := by decide +kernel
theorem dX9_lines_165 : decode cX9_lines 165 = .ok (.getfield 73, 3) := by decide +kernel
theorem dX9_lines_168 : decode cX9_lines 168 = .ok (.bipush 32, 2) := by decide +kernel
theorem dX9_lines_170 : decode cX9_lines 170 = .ok (.iload_n 2, 1) := by decide +kernel
theorem dX9_lines_171 : decode cX9_lines 171 = .ok (.imul, 1) := by decide +kernel
theorem dX9_lines_172 : decode cX9_lines 172 = .ok (.iload_n 3, 1) := by decide +kernel
theorem dX9_lines_173 : decode cX9_lines 173 = .ok (.iadd, 1) := by decide +kernel
theorem dX9_lines_174 : decode cX9_lines 174 = .ok (.iload_n 2, 1) := by decide +kernel
theorem dX9_lines_175 : decode cX9_lines 175 = .ok (.iload_n 3, 1) := by decide +kernel
theorem dX9_lines_176 : decode cX9_lines 176 = .ok (.if_icmp .eq 12, 3) := by decide +kernel
theorem dX9_lines_179 : decode cX9_lines 179 = .ok (.iload 4, 2) := by decide +kernel
theorem dX9_lines_181 : decode cX9_lines 181 = .ok (.ifCond .eq 7, 3) := by decide +kernel
theorem dX9_lines_184 : decode cX9_lines 184 = .ok (.iconst 1, 1) := by decide +kernel
theorem dX9_lines_185 : decode cX9_lines 185 = .ok (.goto 4, 3) := by decide +kernel
theorem dX9_lines_188 : decode cX9_lines 188 = .ok (.iconst 0, 1) := by decide +kernel
theorem dX9_lines_189 : decode cX9_lines 189 = .ok (.bastore, 1) := by decide +kernel
theorem dX9_lines_190 : decode cX9_lines 190 = .ok (.iinc 3 1, 3) := by decide +kernel
theorem dX9_lines_193 : decode cX9_lines 193 = .ok (.goto (-101), 3) := by decide +kernel
theorem dX9_lines_196 : decode cX9_lines 196 = .ok (.iinc 2 1, 3) := by decide +kernel
theorem dX9_lines_199 : decode cX9_lines 199 = .ok (.goto (-114), 3) := by decide +kernel
theorem dX9_lines_202 : decode cX9_lines 202 = .ok (.aload_n 0, 1) := by decide +kernel
theorem dX9_lines_203 : decode cX9_lines 203 = .ok (.iload_n 1, 1) := by decide +kernel
theorem dX9_lines_204 : decode cX9_lines 204 = .ok (.invokevirtual 288, 3) := by decide +kernel
theorem dX9_lines_207 : decode cX9_lines 207 = .ok (.iload_n 1, 1) := by decide +kernel
theorem dX9_lines_208 : decode cX9_lines 208 = .ok (.ireturn, 1) := by decide +kernel
theorem dX9_keep_0 : decode cX9_keep 0 = .ok (.aload_n 0, 1) := by decide +kernel
theorem dX9_keep_1 : decode cX9_keep 1 = .ok (.iconst 1, 1) := by decide +kernel
theorem dX9_keep_2 : decode cX9_keep 2 = .ok (.putfield 291, 3) := by decide +kernel
theorem dX9_keep_5 : decode cX9_keep 5 = .ok (.aload_n 0, 1) := by decide +kernel
theorem dX9_keep_6 : decode cX9_keep 6 = .ok (.aload_n 0, 1) := by decide +kernel
theorem dX9_keep_7 : decode cX9_keep 7 = .ok (.getfield 116, 3) := by decide +kernel
theorem dX9_keep_10 : decode cX9_keep 10 = .ok (.putfield 294, 3) := by decide +kernel
theorem dX9_keep_13 : decode cX9_keep 13 = .ok (.iconst 0, 1) := by decide +kernel
theorem dX9_keep_14 : decode cX9_keep 14 = .ok (.istore_n 1, 1) := by decide +kernel
theorem dX9_keep_15 : decode cX9_keep 15 = .ok (.iload_n 1, 1) := by decide +kernel
theorem dX9_keep_16 : decode cX9_keep 16 = .ok (.sipush 1024, 3) := by decide +kernel
theorem dX9_keep_19 : decode cX9_keep 19 = .ok (.if_icmp .ge 21, 3) := by decide +kernel
theorem dX9_keep_22 : decode cX9_keep 22 = .ok (.aload_n 0, 1) := by decide +kernel
theorem dX9_keep_23 : decode cX9_keep 23 = .ok (.getfield 23, 3) := by decide +kernel
theorem dX9_keep_26 : decode cX9_keep 26 = .ok (.iload_n 1, 1) := by decide +kernel
theorem dX9_keep_27 : decode cX9_keep 27 = .ok (.aload_n 0, 1) := by decide +kernel
theorem dX9_keep_28 : decode cX9_keep 28 = .ok (.getfield 19, 3) := by decide +kernel
theorem dX9_keep_31 : decode cX9_keep 31 = .ok (.iload_n 1, 1) := by decide +kernel
theorem dX9_keep_32 : decode cX9_keep 32 = .ok (.baload, 1) := by decide +kernel
theorem dX9_keep_33 : decode cX9_keep 33 = .ok (.bastore, 1) := by decide +kernel
theorem dX9_keep_34 : decode cX9_keep 34 = .ok (.iinc 1 1, 3) := by decide +kernel
theorem dX9_keep_37 : decode cX9_keep 37 = .ok (.goto (-22), 3) := by decide +kernel
theorem dX9_keep_40 : decode cX9_keep 40 = .ok (.iconst 1, 1) := by decide +kernel
theorem dX9_keep_41 : decode cX9_keep 41 = .ok (.ireturn, 1) := by decide +kernel
theorem dX9_back_0 : decode cX9_back 0 = .ok (.aload_n 0, 1) := by decide +kernel
theorem dX9_back_1 : decode cX9_back 1 = .ok (.getfield 291, 3) := by decide +kernel
theorem dX9_back_4 : decode cX9_back 4 = .ok (.ifCond .ne 6, 3) := by decide +kernel
theorem dX9_back_7 : decode cX9_back 7 = .ok (.bipush (-5), 2) := by decide +kernel
theorem dX9_back_9 : decode cX9_back 9 = .ok (.ireturn, 1) := by decide +kernel
theorem dX9_back_10 : decode cX9_back 10 = .ok (.iconst 0, 1) := by decide +kernel
theorem dX9_back_11 : decode cX9_back 11 = .ok (.istore_n 1, 1) := by decide +kernel
theorem dX9_back_12 : decode cX9_back 12 = .ok (.iload_n 1, 1) := by decide +kernel
theorem dX9_back_13 : decode cX9_back 13 = .ok (.sipush 1024, 3) := by decide +kernel
theorem dX9_back_16 : decode cX9_back 16 = .ok (.if_icmp .ge 21, 3) := by decide +kernel
theorem dX9_back_19 : decode cX9_back 19 = .ok (.aload_n 0, 1) := by decide +kernel
theorem dX9_back_20 : decode cX9_back 20 = .ok (.getfield 73, 3) := by decide +kernel
theorem dX9_back_23 : decode cX9_back 23 = .ok (.iload_n 1, 1) := by decide +kernel
theorem dX9_back_24 : decode cX9_back 24 = .ok (.aload_n 0, 1) := by decide +kernel
theorem dX9_back_25 : decode cX9_back 25 = .ok (.getfield 23, 3) := by decide +kernel
theorem dX9_back_28 : decode cX9_back 28 = .ok (.iload_n 1, 1) := by decide +kernel
theorem dX9_back_29 : decode cX9_back 29 = .ok (.baload, 1) := by decide +kernel
theorem dX9_back_30 : decode cX9_back 30 = .ok (.bastore, 1) := by decide +kernel
theorem dX9_back_31 : decode cX9_back 31 = .ok (.iinc 1 1, 3) := by decide +kernel
theorem dX9_back_34 : decode cX9_back 34 = .ok (.goto (-22), 3) := by decide +kernel
theorem dX9_back_37 : decode cX9_back 37 = .ok (.aload_n 0, 1) := by decide +kernel
theorem dX9_back_38 : decode cX9_back 38 = .ok (.aload_n 0, 1) := by decide +kernel
theorem dX9_back_39 : decode cX9_back 39 = .ok (.getfield 294, 3) := by decide +kernel
theorem dX9_back_42 : decode cX9_back 42 = .ok (.invokevirtual 288, 3) := by decide +kernel
theorem dX9_back_45 : decode cX9_back 45 = .ok (.iconst 1, 1) := by decide +kernel
theorem dX9_back_46 : decode cX9_back 46 = .ok (.ireturn, 1) := by decide +kernel
theorem dX9_findNear_0 : decode cX9_findNear 0 = .ok (.iconst 0, 1) := by decide +kernel
theorem dX9_findNear_1 : decode cX9_findNear 1 = .ok (.istore_n 2, 1) := by decide +kernel
theorem dX9_findNear_2 : decode cX9_findNear 2 = .ok (.iload_n 2, 1) := by decide +kernel
theorem dX9_findNear_3 : decode cX9_findNear 3 = .ok (.aload_n 0, 1) := by decide +kernel
theorem dX9_findNear_4 : decode cX9_findNear 4 = .ok (.getfield 116, 3) := by decide +kernel
theorem dX9_findNear_7 : decode cX9_findNear 7 = .ok (.if_icmp .ge 63, 3) := by decide +kernel
theorem dX9_findNear_10 : decode cX9_findNear 10 = .ok (.aload_n 0, 1) := by decide +kernel
theorem dX9_findNear_11 : decode cX9_findNear 11 = .ok (.getfield 91, 3) := by decide +kernel
theorem dX9_findNear_14 : decode cX9_findNear 14 = .ok (.iload_n 2, 1) := by decide +kernel
theorem dX9_findNear_15 : decode cX9_findNear 15 = .ok (.iconst 0, 1) := by decide +kernel
theorem dX9_findNear_16 : decode cX9_findNear 16 = .ok (.iastore, 1) := by decide +kernel
theorem dX9_findNear_17 : decode cX9_findNear 17 = .ok (.iconst 0, 1) := by decide +kernel
theorem dX9_findNear_18 : decode cX9_findNear 18 = .ok (.istore_n 3, 1) := by decide +kernel
theorem dX9_findNear_19 : decode cX9_findNear 19 = .ok (.iload_n 3, 1) := by decide +kernel
theorem dX9_findNear_20 : decode cX9_findNear 20 = .ok (.aload_n 0, 1) := by decide +kernel
theorem dX9_findNear_21 : decode cX9_findNear 21 = .ok (.getfield 116, 3) := by decide +kernel
theorem dX9_findNear_24 : decode cX9_findNear 24 = .ok (.if_icmp .ge 40, 3) := by decide +kernel
theorem dX9_findNear_27 : decode cX9_findNear 27 = .ok (.aload_n 0, 1) := by decide +kernel
theorem dX9_findNear_28 : decode cX9_findNear 28 = .ok (.getfield 91, 3) := by decide +kernel
theorem dX9_findNear_31 : decode cX9_findNear 31 = .ok (.iload_n 2, 1) := by decide +kernel
theorem dX9_findNear_32 : decode cX9_findNear 32 = .ok (.dup2, 1) := by decide +kernel
theorem dX9_findNear_33 : decode cX9_findNear 33 = .ok (.iaload, 1) := by decide +kernel
theorem dX9_findNear_34 : decode cX9_findNear 34 = .ok (.aload_n 0, 1) := by decide +kernel
theorem dX9_findNear_35 : decode cX9_findNear 35 = .ok (.getfield 39, 3) := by decide +kernel
theorem dX9_findNear_38 : decode cX9_findNear 38 = .ok (.bipush 32, 2) := by decide +kernel
theorem dX9_findNear_40 : decode cX9_findNear 40 = .ok (.iload_n 2, 1) := by decide +kernel
theorem dX9_findNear_41 : decode cX9_findNear 41 = .ok (.imul, 1) := by decide +kernel
theorem dX9_findNear_42 : decode cX9_findNear 42 = .ok (.iload_n 3, 1) := by decide +kernel
theorem dX9_findNear_43 : decode cX9_findNear 43 = .ok (.iadd, 1) := by decide +kernel
theorem dX9_findNear_44 : decode cX9_findNear 44 = .ok (.iaload, 1) := by decide +kernel
theorem dX9_findNear_45 : decode cX9_findNear 45 = .ok (.iload_n 1, 1) := by decide +kernel
theorem dX9_findNear_46 : decode cX9_findNear 46 = .ok (.if_icmp .gt 9, 3) := by decide +kernel
theorem dX9_findNear_49 : decode cX9_findNear 49 = .ok (.iconst 1, 1) := by decide +kernel
theorem dX9_findNear_50 : decode cX9_findNear 50 = .ok (.iload_n 3, 1) := by decide +kernel
theorem dX9_findNear_51 : decode cX9_findNear 51 = .ok (.ishl, 1) := by decide +kernel
theorem dX9_findNear_52 : decode cX9_findNear 52 = .ok (.goto 4, 3) := by decide +kernel
theorem dX9_findNear_55 : decode cX9_findNear 55 = .ok (.iconst 0, 1) := by decide +kernel
theorem dX9_findNear_56 : decode cX9_findNear 56 = .ok (.ior, 1) := by decide +kernel
theorem dX9_findNear_57 : decode cX9_findNear 57 = .ok (.iastore, 1) := by decide +kernel
theorem dX9_findNear_58 : decode cX9_findNear 58 = .ok (.iinc 3 1, 3) := by decide +kernel
theorem dX9_findNear_61 : decode cX9_findNear 61 = .ok (.goto (-42), 3) := by decide +kernel
theorem dX9_findNear_64 : decode cX9_findNear 64 = .ok (.iinc 2 1, 3) := by decide +kernel
theorem dX9_findNear_67 : decode cX9_findNear 67 = .ok (.goto (-65), 3) := by decide +kernel
theorem dX9_findNear_70 : decode cX9_findNear 70 = .ok (.return_, 1) := by decide +kernel
theorem dX9_uncovered_0 : decode cX9_uncovered 0 = .ok (.iconst 0, 1) := by decide +kernel
theorem dX9_uncovered_1 : decode cX9_uncovered 1 = .ok (.istore_n 1, 1) := by decide +kernel
theorem dX9_uncovered_2 : decode cX9_uncovered 2 = .ok (.iload_n 1, 1) := by decide +kernel
theorem dX9_uncovered_3 : decode cX9_uncovered 3 = .ok (.aload_n 0, 1) := by decide +kernel
theorem dX9_uncovered_4 : decode cX9_uncovered 4 = .ok (.getfield 116, 3) := by decide +kernel
theorem dX9_uncovered_7 : decode cX9_uncovered 7 = .ok (.if_icmp .ge 26, 3) := by decide +kernel
theorem dX9_uncovered_10 : decode cX9_uncovered 10 = .ok (.aload_n 0, 1) := by decide +kernel
theorem dX9_uncovered_11 : decode cX9_uncovered 11 = .ok (.getfield 94, 3) := by decide +kernel
theorem dX9_uncovered_14 : decode cX9_uncovered 14 = .ok (.aload_n 0, 1) := by decide +kernel
theorem dX9_uncovered_15 : decode cX9_uncovered 15 = .ok (.getfield 297, 3) := by decide +kernel
theorem dX9_uncovered_18 : decode cX9_uncovered 18 = .ok (.iaload, 1) := by decide +kernel
theorem dX9_uncovered_19 : decode cX9_uncovered 19 = .ok (.iload_n 1, 1) := by decide +kernel
theorem dX9_uncovered_20 : decode cX9_uncovered 20 = .ok (.ishr, 1) := by decide +kernel
theorem dX9_uncovered_21 : decode cX9_uncovered 21 = .ok (.iconst 1, 1) := by decide +kernel
theorem dX9_uncovered_22 : decode cX9_uncovered 22 = .ok (.iand, 1) := by decide +kernel
theorem dX9_uncovered_23 : decode cX9_uncovered 23 = .ok (.iconst 1, 1) := by decide +kernel
theorem dX9_uncovered_24 : decode cX9_uncovered 24 = .ok (.if_icmp .ne 9, 3) := by decide +kernel
theorem dX9_uncovered_27 : decode cX9_uncovered 27 = .ok (.iinc 1 1, 3) := by decide +kernel
theorem dX9_uncovered_30 : decode cX9_uncovered 30 = .ok (.goto (-28), 3) := by decide +kernel
theorem dX9_uncovered_33 : decode cX9_uncovered 33 = .ok (.iload_n 1, 1) := by decide +kernel
theorem dX9_uncovered_34 : decode cX9_uncovered 34 = .ok (.ireturn, 1) := by decide +kernel
theorem dX9_find_0 : decode cX9_find 0 = .ok (.iload_n 1, 1) := by decide +kernel
theorem dX9_find_1 : decode cX9_find 1 = .ok (.i2l, 1) := by decide +kernel
theorem dX9_find_2 : decode cX9_find 2 = .ok (.lconst 0, 1) := by decide +kernel
theorem dX9_find_3 : decode cX9_find 3 = .ok (.ldc2_w 283, 3) := by decide +kernel
theorem dX9_find_6 : decode cX9_find 6 = .ok (.invokestatic 112, 3) := by decide +kernel
theorem dX9_find_9 : decode cX9_find 9 = .ok (.ifCond .ne 5, 3) := by decide +kernel
theorem dX9_find_12 : decode cX9_find 12 = .ok (.iconst (-1), 1) := by decide +kernel
theorem dX9_find_13 : decode cX9_find 13 = .ok (.ireturn, 1) := by decide +kernel
theorem dX9_find_14 : decode cX9_find 14 = .ok (.aload_n 0, 1) := by decide +kernel
theorem dX9_find_15 : decode cX9_find 15 = .ok (.getfield 116, 3) := by decide +kernel
theorem dX9_find_18 : decode cX9_find 18 = .ok (.ifCond .ne 6, 3) := by decide +kernel
theorem dX9_find_21 : decode cX9_find 21 = .ok (.bipush (-5), 2) := by decide +kernel
theorem dX9_find_23 : decode cX9_find 23 = .ok (.ireturn, 1) := by decide +kernel
theorem dX9_find_24 : decode cX9_find 24 = .ok (.aload_n 0, 1) := by decide +kernel
theorem dX9_find_25 : decode cX9_find 25 = .ok (.invokevirtual 186, 3) := by decide +kernel
theorem dX9_find_28 : decode cX9_find 28 = .ok (.aload_n 0, 1) := by decide +kernel
theorem dX9_find_29 : decode cX9_find 29 = .ok (.iload_n 1, 1) := by decide +kernel
theorem dX9_find_30 : decode cX9_find 30 = .ok (.invokevirtual 300, 3) := by decide +kernel
theorem dX9_find_33 : decode cX9_find 33 = .ok (.aload_n 0, 1) := by decide +kernel
theorem dX9_find_34 : decode cX9_find 34 = .ok (.iconst 0, 1) := by decide +kernel
theorem dX9_find_35 : decode cX9_find 35 = .ok (.putfield 297, 3) := by decide +kernel
theorem dX9_find_38 : decode cX9_find 38 = .ok (.aload_n 0, 1) := by decide +kernel
theorem dX9_find_39 : decode cX9_find 39 = .ok (.getfield 88, 3) := by decide +kernel
theorem dX9_find_42 : decode cX9_find 42 = .ok (.iconst 0, 1) := by decide +kernel
theorem dX9_find_43 : decode cX9_find 43 = .ok (.iconst (-1), 1) := by decide +kernel
theorem dX9_find_44 : decode cX9_find 44 = .ok (.iastore, 1) := by decide +kernel
theorem dX9_find_45 : decode cX9_find 45 = .ok (.aload_n 0, 1) := by decide +kernel
theorem dX9_find_46 : decode cX9_find 46 = .ok (.getfield 94, 3) := by decide +kernel
theorem dX9_find_49 : decode cX9_find 49 = .ok (.iconst 0, 1) := by decide +kernel
theorem dX9_find_50 : decode cX9_find 50 = .ok (.iconst 0, 1) := by decide +kernel
theorem dX9_find_51 : decode cX9_find 51 = .ok (.iastore, 1) := by decide +kernel
theorem dX9_find_52 : decode cX9_find 52 = .ok (.iconst 0, 1) := by decide +kernel
theorem dX9_find_53 : decode cX9_find 53 = .ok (.istore_n 2, 1) := by decide +kernel
theorem dX9_find_54 : decode cX9_find 54 = .ok (.aload_n 0, 1) := by decide +kernel
theorem dX9_find_55 : decode cX9_find 55 = .ok (.getfield 297, 3) := by decide +kernel
theorem dX9_find_58 : decode cX9_find 58 = .ok (.ifCond .lt 188, 3) := by decide +kernel
theorem dX9_find_61 : decode cX9_find 61 = .ok (.aload_n 0, 1) := by decide +kernel
theorem dX9_find_62 : decode cX9_find 62 = .ok (.invokevirtual 303, 3) := by decide +kernel
theorem dX9_find_65 : decode cX9_find 65 = .ok (.istore_n 3, 1) := by decide +kernel
theorem dX9_find_66 : decode cX9_find 66 = .ok (.iload_n 3, 1) := by decide +kernel
theorem dX9_find_67 : decode cX9_find 67 = .ok (.aload_n 0, 1) := by decide +kernel
theorem dX9_find_68 : decode cX9_find 68 = .ok (.getfield 116, 3) := by decide +kernel
theorem dX9_find_71 : decode cX9_find 71 = .ok (.if_icmp .ne 5, 3) := by decide +kernel
theorem dX9_find_74 : decode cX9_find 74 = .ok (.iconst 0, 1) := by decide +kernel
theorem dX9_find_75 : decode cX9_find 75 = .ok (.ireturn, 1) := by decide +kernel
theorem dX9_find_76 : decode cX9_find 76 = .ok (.aload_n 0, 1) := by decide +kernel
theorem dX9_find_77 : decode cX9_find 77 = .ok (.getfield 88, 3) := by decide +kernel
theorem dX9_find_80 : decode cX9_find 80 = .ok (.aload_n 0, 1) := by decide +kernel
theorem dX9_find_81 : decode cX9_find 81 = .ok (.getfield 297, 3) := by decide +kernel
theorem dX9_find_84 : decode cX9_find 84 = .ok (.iaload, 1) := by decide +kernel
theorem dX9_find_85 : decode cX9_find 85 = .ok (.iconst 1, 1) := by decide +kernel
theorem dX9_find_86 : decode cX9_find 86 = .ok (.iadd, 1) := by decide +kernel
theorem dX9_find_87 : decode cX9_find 87 = .ok (.istore 4, 2) := by decide +kernel
theorem dX9_find_89 : decode cX9_find 89 = .ok (.iload 4, 2) := by decide +kernel
theorem dX9_find_91 : decode cX9_find 91 = .ok (.aload_n 0, 1) := by decide +kernel
theorem dX9_find_92 : decode cX9_find 92 = .ok (.getfield 116, 3) := by decide +kernel
theorem dX9_find_95 : decode cX9_find 95 = .ok (.if_icmp .ge 43, 3) := by decide +kernel
theorem dX9_find_98 : decode cX9_find 98 = .ok (.aload_n 0, 1) := by decide +kernel
theorem dX9_find_99 : decode cX9_find 99 = .ok (.getfield 91, 3) := by decide +kernel
theorem dX9_find_102 : decode cX9_find 102 = .ok (.iload_n 3, 1) := by decide +kernel
theorem dX9_find_103 : decode cX9_find 103 = .ok (.iaload, 1) := by decide +kernel
theorem dX9_find_104 : decode cX9_find 104 = .ok (.iload 4, 2) := by decide +kernel
theorem dX9_find_106 : decode cX9_find 106 = .ok (.ishr, 1) := by decide +kernel
theorem dX9_find_107 : decode cX9_find 107 = .ok (.iconst 1, 1) := by decide +kernel
theorem dX9_find_108 : decode cX9_find 108 = .ok (.iand, 1) := by decide +kernel
theorem dX9_find_109 : decode cX9_find 109 = .ok (.ifCond .eq 23, 3) := by decide +kernel
theorem dX9_find_112 : decode cX9_find 112 = .ok (.aload_n 0, 1) := by decide +kernel
theorem dX9_find_113 : decode cX9_find 113 = .ok (.getfield 91, 3) := by decide +kernel
theorem dX9_find_116 : decode cX9_find 116 = .ok (.iload 4, 2) := by decide +kernel
theorem dX9_find_118 : decode cX9_find 118 = .ok (.iaload, 1) := by decide +kernel
theorem dX9_find_119 : decode cX9_find 119 = .ok (.aload_n 0, 1) := by decide +kernel
theorem dX9_find_120 : decode cX9_find 120 = .ok (.getfield 94, 3) := by decide +kernel
theorem dX9_find_123 : decode cX9_find 123 = .ok (.aload_n 0, 1) := by decide +kernel
theorem dX9_find_124 : decode cX9_find 124 = .ok (.getfield 297, 3) := by decide +kernel
theorem dX9_find_127 : decode cX9_find 127 = .ok (.iaload, 1) := by decide +kernel
theorem dX9_find_128 : decode cX9_find 128 = .ok (.iand, 1) := by decide +kernel
theorem dX9_find_129 : decode cX9_find 129 = .ok (.ifCond .eq 9, 3) := by decide +kernel
theorem dX9_find_132 : decode cX9_find 132 = .ok (.iinc 4 1, 3) := by decide +kernel
theorem dX9_find_135 : decode cX9_find 135 = .ok (.goto (-46), 3) := by decide +kernel
theorem dX9_find_138 : decode cX9_find 138 = .ok (.aload_n 0, 1) := by decide +kernel
theorem dX9_find_139 : decode cX9_find 139 = .ok (.getfield 88, 3) := by decide +kernel
theorem dX9_find_142 : decode cX9_find 142 = .ok (.aload_n 0, 1) := by decide +kernel
theorem dX9_find_143 : decode cX9_find 143 = .ok (.getfield 297, 3) := by decide +kernel
theorem dX9_find_146 : decode cX9_find 146 = .ok (.iload 4, 2) := by decide +kernel
theorem dX9_find_148 : decode cX9_find 148 = .ok (.iastore, 1) := by decide +kernel
theorem dX9_find_149 : decode cX9_find 149 = .ok (.iload 4, 2) := by decide +kernel
theorem dX9_find_151 : decode cX9_find 151 = .ok (.aload_n 0, 1) := by decide +kernel
theorem dX9_find_152 : decode cX9_find 152 = .ok (.getfield 116, 3) := by decide +kernel
theorem dX9_find_155 : decode cX9_find 155 = .ok (.if_icmp .ne 16, 3) := by decide +kernel
theorem dX9_find_158 : decode cX9_find 158 = .ok (.aload_n 0, 1) := by decide +kernel
theorem dX9_find_159 : decode cX9_find 159 = .ok (.dup, 1) := by decide +kernel
theorem dX9_find_160 : decode cX9_find 160 = .ok (.getfield 297, 3) := by decide +kernel
theorem dX9_find_163 : decode cX9_find 163 = .ok (.iconst 1, 1) := by decide +kernel
theorem dX9_find_164 : decode cX9_find 164 = .ok (.isub, 1) := by decide +kernel
theorem dX9_find_165 : decode cX9_find 165 = .ok (.putfield 297, 3) := by decide +kernel
theorem dX9_find_168 : decode cX9_find 168 = .ok (.goto 75, 3) := by decide +kernel
theorem dX9_find_171 : decode cX9_find 171 = .ok (.iload_n 2, 1) := by decide +kernel
theorem dX9_find_172 : decode cX9_find 172 = .ok (.sipush 20000, 3) := by decide +kernel
theorem dX9_find_175 : decode cX9_find 175 = .ok (.if_icmp .ne 6, 3) := by decide +kernel
theorem dX9_find_178 : decode cX9_find 178 = .ok (.bipush (-7), 2) := by decide +kernel
theorem dX9_find_180 : decode cX9_find 180 = .ok (.ireturn, 1) := by decide +kernel
theorem dX9_find_181 : decode cX9_find 181 = .ok (.iinc 2 1, 3) := by decide +kernel
theorem dX9_find_184 : decode cX9_find 184 = .ok (.aload_n 0, 1) := by decide +kernel
theorem dX9_find_185 : decode cX9_find 185 = .ok (.getfield 85, 3) := by decide +kernel
theorem dX9_find_188 : decode cX9_find 188 = .ok (.aload_n 0, 1) := by decide +kernel
theorem dX9_find_189 : decode cX9_find 189 = .ok (.getfield 297, 3) := by decide +kernel
theorem dX9_find_192 : decode cX9_find 192 = .ok (.iload 4, 2) := by decide +kernel
theorem dX9_find_194 : decode cX9_find 194 = .ok (.iastore, 1) := by decide +kernel
theorem dX9_find_195 : decode cX9_find 195 = .ok (.aload_n 0, 1) := by decide +kernel
theorem dX9_find_196 : decode cX9_find 196 = .ok (.getfield 94, 3) := by decide +kernel
theorem dX9_find_199 : decode cX9_find 199 = .ok (.aload_n 0, 1) := by decide +kernel
theorem dX9_find_200 : decode cX9_find 200 = .ok (.getfield 297, 3) := by decide +kernel
theorem dX9_find_203 : decode cX9_find 203 = .ok (.iconst 1, 1) := by decide +kernel
theorem dX9_find_204 : decode cX9_find 204 = .ok (.iadd, 1) := by decide +kernel
theorem dX9_find_205 : decode cX9_find 205 = .ok (.aload_n 0, 1) := by decide +kernel
theorem dX9_find_206 : decode cX9_find 206 = .ok (.getfield 94, 3) := by decide +kernel
theorem dX9_find_209 : decode cX9_find 209 = .ok (.aload_n 0, 1) := by decide +kernel
theorem dX9_find_210 : decode cX9_find 210 = .ok (.getfield 297, 3) := by decide +kernel
theorem dX9_find_213 : decode cX9_find 213 = .ok (.iaload, 1) := by decide +kernel
theorem dX9_find_214 : decode cX9_find 214 = .ok (.aload_n 0, 1) := by decide +kernel
theorem dX9_find_215 : decode cX9_find 215 = .ok (.getfield 91, 3) := by decide +kernel
theorem dX9_find_218 : decode cX9_find 218 = .ok (.iload 4, 2) := by decide +kernel
theorem dX9_find_220 : decode cX9_find 220 = .ok (.iaload, 1) := by decide +kernel
theorem dX9_find_221 : decode cX9_find 221 = .ok (.ior, 1) := by decide +kernel
theorem dX9_find_222 : decode cX9_find 222 = .ok (.iastore, 1) := by decide +kernel
theorem dX9_find_223 : decode cX9_find 223 = .ok (.aload_n 0, 1) := by decide +kernel
theorem dX9_find_224 : decode cX9_find 224 = .ok (.dup, 1) := by decide +kernel
theorem dX9_find_225 : decode cX9_find 225 = .ok (.getfield 297, 3) := by decide +kernel
theorem dX9_find_228 : decode cX9_find 228 = .ok (.iconst 1, 1) := by decide +kernel
theorem dX9_find_229 : decode cX9_find 229 = .ok (.iadd, 1) := by decide +kernel
theorem dX9_find_230 : decode cX9_find 230 = .ok (.putfield 297, 3) := by decide +kernel
theorem dX9_find_233 : decode cX9_find 233 = .ok (.aload_n 0, 1) := by decide +kernel
theorem dX9_find_234 : decode cX9_find 234 = .ok (.getfield 88, 3) := by decide +kernel
theorem dX9_find_237 : decode cX9_find 237 = .ok (.aload_n 0, 1) := by decide +kernel
theorem dX9_find_238 : decode cX9_find 238 = .ok (.getfield 297, 3) := by decide +kernel
theorem dX9_find_241 : decode cX9_find 241 = .ok (.iconst (-1), 1) := by decide +kernel
theorem dX9_find_242 : decode cX9_find 242 = .ok (.iastore, 1) := by decide +kernel
theorem dX9_find_243 : decode cX9_find 243 = .ok (.goto (-189), 3) := by decide +kernel
theorem dX9_find_246 : decode cX9_find 246 = .ok (.bipush (-8), 2) := by decide +kernel
theorem dX9_find_248 : decode cX9_find 248 = .ok (.ireturn, 1) := by decide +kernel
theorem dX9_perfect_0 : decode cX9_perfect 0 = .ok (.aload_n 0, 1) := by decide +kernel
theorem dX9_perfect_1 : decode cX9_perfect 1 = .ok (.iload_n 1, 1) := by decide +kernel
theorem dX9_perfect_2 : decode cX9_perfect 2 = .ok (.invokevirtual 306, 3) := by decide +kernel
theorem dX9_perfect_5 : decode cX9_perfect 5 = .ok (.istore_n 2, 1) := by decide +kernel
theorem dX9_perfect_6 : decode cX9_perfect 6 = .ok (.iload_n 2, 1) := by decide +kernel
theorem dX9_perfect_7 : decode cX9_perfect 7 = .ok (.ifCond .eq 7, 3) := by decide +kernel
theorem dX9_perfect_10 : decode cX9_perfect 10 = .ok (.iload_n 2, 1) := by decide +kernel
theorem dX9_perfect_11 : decode cX9_perfect 11 = .ok (.goto 7, 3) := by decide +kernel
theorem dX9_perfect_14 : decode cX9_perfect 14 = .ok (.aload_n 0, 1) := by decide +kernel
theorem dX9_perfect_15 : decode cX9_perfect 15 = .ok (.getfield 297, 3) := by decide +kernel
theorem dX9_perfect_18 : decode cX9_perfect 18 = .ok (.ireturn, 1) := by decide +kernel
theorem dX9_heap_0 : decode cX9_heap 0 = .ok (.aload_n 0, 1) := by decide +kernel
theorem dX9_heap_1 : decode cX9_heap 1 = .ok (.iload_n 1, 1) := by decide +kernel
theorem dX9_heap_2 : decode cX9_heap 2 = .ok (.invokevirtual 306, 3) := by decide +kernel
theorem dX9_heap_5 : decode cX9_heap 5 = .ok (.istore_n 3, 1) := by decide +kernel
theorem dX9_heap_6 : decode cX9_heap 6 = .ok (.iload_n 3, 1) := by decide +kernel
theorem dX9_heap_7 : decode cX9_heap 7 = .ok (.ifCond .eq 7, 3) := by decide +kernel
theorem dX9_heap_10 : decode cX9_heap 10 = .ok (.iload_n 3, 1) := by decide +kernel
theorem dX9_heap_11 : decode cX9_heap 11 = .ok (.goto 30, 3) := by decide +kernel
theorem dX9_heap_14 : decode cX9_heap 14 = .ok (.iload_n 2, 1) := by decide +kernel
theorem dX9_heap_15 : decode cX9_heap 15 = .ok (.i2l, 1) := by decide +kernel
theorem dX9_heap_16 : decode cX9_heap 16 = .ok (.lconst 0, 1) := by decide +kernel
theorem dX9_heap_17 : decode cX9_heap 17 = .ok (.aload_n 0, 1) := by decide +kernel
theorem dX9_heap_18 : decode cX9_heap 18 = .ok (.getfield 297, 3) := by decide +kernel
theorem dX9_heap_21 : decode cX9_heap 21 = .ok (.iconst 1, 1) := by decide +kernel
theorem dX9_heap_22 : decode cX9_heap 22 = .ok (.isub, 1) := by decide +kernel
theorem dX9_heap_23 : decode cX9_heap 23 = .ok (.i2l, 1) := by decide +kernel
theorem dX9_heap_24 : decode cX9_heap 24 = .ok (.invokestatic 112, 3) := by decide +kernel
theorem dX9_heap_27 : decode cX9_heap 27 = .ok (.ifCond .eq 12, 3) := by decide +kernel
theorem dX9_heap_30 : decode cX9_heap 30 = .ok (.aload_n 0, 1) := by decide +kernel
theorem dX9_heap_31 : decode cX9_heap 31 = .ok (.getfield 85, 3) := by decide +kernel
theorem dX9_heap_34 : decode cX9_heap 34 = .ok (.iload_n 2, 1) := by decide +kernel
theorem dX9_heap_35 : decode cX9_heap 35 = .ok (.iaload, 1) := by decide +kernel
theorem dX9_heap_36 : decode cX9_heap 36 = .ok (.goto 5, 3) := by decide +kernel
theorem dX9_heap_39 : decode cX9_heap 39 = .ok (.bipush (-8), 2) := by decide +kernel
theorem dX9_heap_41 : decode cX9_heap 41 = .ok (.ireturn, 1) := by decide +kernel
theorem dX9_sign_0 : decode cX9_sign 0 = .ok (.bipush 32, 2) := by decide +kernel
theorem dX9_sign_2 : decode cX9_sign 2 = .ok (.bipush 32, 2) := by decide +kernel
theorem dX9_sign_4 : decode cX9_sign 4 = .ok (.iload_n 1, 1) := by decide +kernel
theorem dX9_sign_5 : decode cX9_sign 5 = .ok (.imul, 1) := by decide +kernel
theorem dX9_sign_6 : decode cX9_sign 6 = .ok (.iload_n 2, 1) := by decide +kernel
theorem dX9_sign_7 : decode cX9_sign 7 = .ok (.iadd, 1) := by decide +kernel
theorem dX9_sign_8 : decode cX9_sign 8 = .ok (.imul, 1) := by decide +kernel
theorem dX9_sign_9 : decode cX9_sign 9 = .ok (.istore_n 3, 1) := by decide +kernel
theorem dX9_sign_10 : decode cX9_sign 10 = .ok (.iconst 0, 1) := by decide +kernel
theorem dX9_sign_11 : decode cX9_sign 11 = .ok (.istore 4, 2) := by decide +kernel
theorem dX9_sign_13 : decode cX9_sign 13 = .ok (.iload 4, 2) := by decide +kernel
theorem dX9_sign_15 : decode cX9_sign 15 = .ok (.aload_n 0, 1) := by decide +kernel
theorem dX9_sign_16 : decode cX9_sign 16 = .ok (.getfield 116, 3) := by decide +kernel
theorem dX9_sign_19 : decode cX9_sign 19 = .ok (.if_icmp .ge 102, 3) := by decide +kernel
theorem dX9_sign_22 : decode cX9_sign 22 = .ok (.sipush 1024, 3) := by decide +kernel
theorem dX9_sign_25 : decode cX9_sign 25 = .ok (.aload_n 0, 1) := by decide +kernel
theorem dX9_sign_26 : decode cX9_sign 26 = .ok (.getfield 97, 3) := by decide +kernel
theorem dX9_sign_29 : decode cX9_sign 29 = .ok (.bipush 32, 2) := by decide +kernel
theorem dX9_sign_31 : decode cX9_sign 31 = .ok (.iload_n 1, 1) := by decide +kernel
theorem dX9_sign_32 : decode cX9_sign 32 = .ok (.imul, 1) := by decide +kernel
theorem dX9_sign_33 : decode cX9_sign 33 = .ok (.iload 4, 2) := by decide +kernel
theorem dX9_sign_35 : decode cX9_sign 35 = .ok (.iadd, 1) := by decide +kernel
theorem dX9_sign_36 : decode cX9_sign 36 = .ok (.iaload, 1) := by decide +kernel
theorem dX9_sign_37 : decode cX9_sign 37 = .ok (.imul, 1) := by decide +kernel
theorem dX9_sign_38 : decode cX9_sign 38 = .ok (.aload_n 0, 1) := by decide +kernel
theorem dX9_sign_39 : decode cX9_sign 39 = .ok (.getfield 97, 3) := by decide +kernel
theorem dX9_sign_42 : decode cX9_sign 42 = .ok (.bipush 32, 2) := by decide +kernel
theorem dX9_sign_44 : decode cX9_sign 44 = .ok (.iload 4, 2) := by decide +kernel
theorem dX9_sign_46 : decode cX9_sign 46 = .ok (.imul, 1) := by decide +kernel
theorem dX9_sign_47 : decode cX9_sign 47 = .ok (.iload_n 2, 1) := by decide +kernel
theorem dX9_sign_48 : decode cX9_sign 48 = .ok (.iadd, 1) := by decide +kernel
theorem dX9_sign_49 : decode cX9_sign 49 = .ok (.iaload, 1) := by decide +kernel
theorem dX9_sign_50 : decode cX9_sign 50 = .ok (.iadd, 1) := by decide +kernel
theorem dX9_sign_51 : decode cX9_sign 51 = .ok (.istore 5, 2) := by decide +kernel
