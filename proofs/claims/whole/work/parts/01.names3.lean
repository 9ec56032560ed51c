theorem dX9_sign_53 : decode cX9_sign 53 = .ok (.iload 4, 2) := by decide +kernel
theorem dX9_sign_55 : decode cX9_sign 55 = .ok (.istore 6, 2) := by decide +kernel
theorem dX9_sign_57 : decode cX9_sign 57 = .ok (.iload 6, 2) := by decide +kernel
theorem dX9_sign_59 : decode cX9_sign 59 = .ok (.ifCond .le 45, 3) := by decide +kernel
theorem dX9_sign_62 : decode cX9_sign 62 = .ok (.aload_n 0, 1) := by decide +kernel
theorem dX9_sign_63 : decode cX9_sign 63 = .ok (.getfield 104, 3) := by decide +kernel
theorem dX9_sign_66 : decode cX9_sign 66 = .ok (.iload_n 3, 1) := by decide +kernel
theorem dX9_sign_67 : decode cX9_sign 67 = .ok (.iload 6, 2) := by decide +kernel
theorem dX9_sign_69 : decode cX9_sign 69 = .ok (.iadd, 1) := by decide +kernel
theorem dX9_sign_70 : decode cX9_sign 70 = .ok (.iconst 1, 1) := by decide +kernel
theorem dX9_sign_71 : decode cX9_sign 71 = .ok (.isub, 1) := by decide +kernel
theorem dX9_sign_72 : decode cX9_sign 72 = .ok (.iaload, 1) := by decide +kernel
theorem dX9_sign_73 : decode cX9_sign 73 = .ok (.iload 5, 2) := by decide +kernel
theorem dX9_sign_75 : decode cX9_sign 75 = .ok (.if_icmp .le 29, 3) := by decide +kernel
theorem dX9_sign_78 : decode cX9_sign 78 = .ok (.aload_n 0, 1) := by decide +kernel
theorem dX9_sign_79 : decode cX9_sign 79 = .ok (.getfield 104, 3) := by decide +kernel
theorem dX9_sign_82 : decode cX9_sign 82 = .ok (.iload_n 3, 1) := by decide +kernel
theorem dX9_sign_83 : decode cX9_sign 83 = .ok (.iload 6, 2) := by decide +kernel
theorem dX9_sign_85 : decode cX9_sign 85 = .ok (.iadd, 1) := by decide +kernel
theorem dX9_sign_86 : decode cX9_sign 86 = .ok (.aload_n 0, 1) := by decide +kernel
theorem dX9_sign_87 : decode cX9_sign 87 = .ok (.getfield 104, 3) := by decide +kernel
theorem dX9_sign_90 : decode cX9_sign 90 = .ok (.iload_n 3, 1) := by decide +kernel
theorem dX9_sign_91 : decode cX9_sign 91 = .ok (.iload 6, 2) := by decide +kernel
theorem dX9_sign_93 : decode cX9_sign 93 = .ok (.iadd, 1) := by decide +kernel
theorem dX9_sign_94 : decode cX9_sign 94 = .ok (.iconst 1, 1) := by decide +kernel
theorem dX9_sign_95 : decode cX9_sign 95 = .ok (.isub, 1) := by decide +kernel
theorem dX9_sign_96 : decode cX9_sign 96 = .ok (.iaload, 1) := by decide +kernel
theorem dX9_sign_97 : decode cX9_sign 97 = .ok (.iastore, 1) := by decide +kernel
theorem dX9_sign_98 : decode cX9_sign 98 = .ok (.iinc 6 (-1), 3) := by decide +kernel
theorem dX9_sign_101 : decode cX9_sign 101 = .ok (.goto (-44), 3) := by decide +kernel
theorem dX9_sign_104 : decode cX9_sign 104 = .ok (.aload_n 0, 1) := by decide +kernel
theorem dX9_sign_105 : decode cX9_sign 105 = .ok (.getfield 104, 3) := by decide +kernel
theorem dX9_sign_108 : decode cX9_sign 108 = .ok (.iload_n 3, 1) := by decide +kernel
theorem dX9_sign_109 : decode cX9_sign 109 = .ok (.iload 6, 2) := by decide +kernel
theorem dX9_sign_111 : decode cX9_sign 111 = .ok (.iadd, 1) := by decide +kernel
theorem dX9_sign_112 : decode cX9_sign 112 = .ok (.iload 5, 2) := by decide +kernel
theorem dX9_sign_114 : decode cX9_sign 114 = .ok (.iastore, 1) := by decide +kernel
theorem dX9_sign_115 : decode cX9_sign 115 = .ok (.iinc 4 1, 3) := by decide +kernel
theorem dX9_sign_118 : decode cX9_sign 118 = .ok (.goto (-105), 3) := by decide +kernel
theorem dX9_sign_121 : decode cX9_sign 121 = .ok (.return_, 1) := by decide +kernel
theorem dX9_areAlike_0 : decode cX9_areAlike 0 = .ok (.aload_n 0, 1) := by decide +kernel
theorem dX9_areAlike_1 : decode cX9_areAlike 1 = .ok (.getfield 97, 3) := by decide +kernel
theorem dX9_areAlike_4 : decode cX9_areAlike 4 = .ok (.iload_n 1, 1) := by decide +kernel
theorem dX9_areAlike_5 : decode cX9_areAlike 5 = .ok (.iaload, 1) := by decide +kernel
theorem dX9_areAlike_6 : decode cX9_areAlike 6 = .ok (.aload_n 0, 1) := by decide +kernel
theorem dX9_areAlike_7 : decode cX9_areAlike 7 = .ok (.getfield 97, 3) := by decide +kernel
theorem dX9_areAlike_10 : decode cX9_areAlike 10 = .ok (.iload_n 2, 1) := by decide +kernel
theorem dX9_areAlike_11 : decode cX9_areAlike 11 = .ok (.iaload, 1) := by decide +kernel
theorem dX9_areAlike_12 : decode cX9_areAlike 12 = .ok (.if_icmp .ne 7, 3) := by decide +kernel
theorem dX9_areAlike_15 : decode cX9_areAlike 15 = .ok (.iconst 1, 1) := by decide +kernel
theorem dX9_areAlike_16 : decode cX9_areAlike 16 = .ok (.goto 4, 3) := by decide +kernel
theorem dX9_areAlike_19 : decode cX9_areAlike 19 = .ok (.iconst 0, 1) := by decide +kernel
theorem dX9_areAlike_20 : decode cX9_areAlike 20 = .ok (.istore_n 3, 1) := by decide +kernel
theorem dX9_areAlike_21 : decode cX9_areAlike 21 = .ok (.iconst 0, 1) := by decide +kernel
theorem dX9_areAlike_22 : decode cX9_areAlike 22 = .ok (.istore 4, 2) := by decide +kernel
theorem dX9_areAlike_24 : decode cX9_areAlike 24 = .ok (.iload 4, 2) := by decide +kernel
theorem dX9_areAlike_26 : decode cX9_areAlike 26 = .ok (.aload_n 0, 1) := by decide +kernel
theorem dX9_areAlike_27 : decode cX9_areAlike 27 = .ok (.getfield 116, 3) := by decide +kernel
theorem dX9_areAlike_30 : decode cX9_areAlike 30 = .ok (.if_icmp .ge 46, 3) := by decide +kernel
theorem dX9_areAlike_33 : decode cX9_areAlike 33 = .ok (.iload_n 3, 1) := by decide +kernel
theorem dX9_areAlike_34 : decode cX9_areAlike 34 = .ok (.ifCond .eq 42, 3) := by decide +kernel
theorem dX9_areAlike_37 : decode cX9_areAlike 37 = .ok (.aload_n 0, 1) := by decide +kernel
theorem dX9_areAlike_38 : decode cX9_areAlike 38 = .ok (.getfield 104, 3) := by decide +kernel
theorem dX9_areAlike_41 : decode cX9_areAlike 41 = .ok (.bipush 32, 2) := by decide +kernel
theorem dX9_areAlike_43 : decode cX9_areAlike 43 = .ok (.iload_n 1, 1) := by decide +kernel
theorem dX9_areAlike_44 : decode cX9_areAlike 44 = .ok (.imul, 1) := by decide +kernel
theorem dX9_areAlike_45 : decode cX9_areAlike 45 = .ok (.iload 4, 2) := by decide +kernel
theorem dX9_areAlike_47 : decode cX9_areAlike 47 = .ok (.iadd, 1) := by decide +kernel
theorem dX9_areAlike_48 : decode cX9_areAlike 48 = .ok (.iaload, 1) := by decide +kernel
theorem dX9_areAlike_49 : decode cX9_areAlike 49 = .ok (.aload_n 0, 1) := by decide +kernel
theorem dX9_areAlike_50 : decode cX9_areAlike 50 = .ok (.getfield 104, 3) := by decide +kernel
theorem dX9_areAlike_53 : decode cX9_areAlike 53 = .ok (.bipush 32, 2) := by decide +kernel
theorem dX9_areAlike_55 : decode cX9_areAlike 55 = .ok (.iload_n 2, 1) := by decide +kernel
theorem dX9_areAlike_56 : decode cX9_areAlike 56 = .ok (.imul, 1) := by decide +kernel
theorem dX9_areAlike_57 : decode cX9_areAlike 57 = .ok (.iload 4, 2) := by decide +kernel
theorem dX9_areAlike_59 : decode cX9_areAlike 59 = .ok (.iadd, 1) := by decide +kernel
theorem dX9_areAlike_60 : decode cX9_areAlike 60 = .ok (.iaload, 1) := by decide +kernel
theorem dX9_areAlike_61 : decode cX9_areAlike 61 = .ok (.if_icmp .ne 7, 3) := by decide +kernel
theorem dX9_areAlike_64 : decode cX9_areAlike 64 = .ok (.iconst 1, 1) := by decide +kernel
theorem dX9_areAlike_65 : decode cX9_areAlike 65 = .ok (.goto 4, 3) := by decide +kernel
theorem dX9_areAlike_68 : decode cX9_areAlike 68 = .ok (.iconst 0, 1) := by decide +kernel
theorem dX9_areAlike_69 : decode cX9_areAlike 69 = .ok (.istore_n 3, 1) := by decide +kernel
theorem dX9_areAlike_70 : decode cX9_areAlike 70 = .ok (.iinc 4 1, 3) := by decide +kernel
theorem dX9_areAlike_73 : decode cX9_areAlike 73 = .ok (.goto (-49), 3) := by decide +kernel
theorem dX9_areAlike_76 : decode cX9_areAlike 76 = .ok (.iload_n 3, 1) := by decide +kernel
theorem dX9_areAlike_77 : decode cX9_areAlike 77 = .ok (.ireturn, 1) := by decide +kernel
theorem dX9_partOnce_0 : decode cX9_partOnce 0 = .ok (.iconst 0, 1) := by decide +kernel
theorem dX9_partOnce_1 : decode cX9_partOnce 1 = .ok (.istore_n 1, 1) := by decide +kernel
theorem dX9_partOnce_2 : decode cX9_partOnce 2 = .ok (.iload_n 1, 1) := by decide +kernel
theorem dX9_partOnce_3 : decode cX9_partOnce 3 = .ok (.aload_n 0, 1) := by decide +kernel
theorem dX9_partOnce_4 : decode cX9_partOnce 4 = .ok (.getfield 116, 3) := by decide +kernel
theorem dX9_partOnce_7 : decode cX9_partOnce 7 = .ok (.if_icmp .ge 31, 3) := by decide +kernel
theorem dX9_partOnce_10 : decode cX9_partOnce 10 = .ok (.iconst 0, 1) := by decide +kernel
theorem dX9_partOnce_11 : decode cX9_partOnce 11 = .ok (.istore_n 2, 1) := by decide +kernel
theorem dX9_partOnce_12 : decode cX9_partOnce 12 = .ok (.iload_n 2, 1) := by decide +kernel
theorem dX9_partOnce_13 : decode cX9_partOnce 13 = .ok (.aload_n 0, 1) := by decide +kernel
theorem dX9_partOnce_14 : decode cX9_partOnce 14 = .ok (.getfield 116, 3) := by decide +kernel
theorem dX9_partOnce_17 : decode cX9_partOnce 17 = .ok (.if_icmp .ge 15, 3) := by decide +kernel
theorem dX9_partOnce_20 : decode cX9_partOnce 20 = .ok (.aload_n 0, 1) := by decide +kernel
theorem dX9_partOnce_21 : decode cX9_partOnce 21 = .ok (.iload_n 1, 1) := by decide +kernel
theorem dX9_partOnce_22 : decode cX9_partOnce 22 = .ok (.iload_n 2, 1) := by decide +kernel
theorem dX9_partOnce_23 : decode cX9_partOnce 23 = .ok (.invokevirtual 309, 3) := by decide +kernel
theorem dX9_partOnce_26 : decode cX9_partOnce 26 = .ok (.iinc 2 1, 3) := by decide +kernel
theorem dX9_partOnce_29 : decode cX9_partOnce 29 = .ok (.goto (-17), 3) := by decide +kernel
theorem dX9_partOnce_32 : decode cX9_partOnce 32 = .ok (.iinc 1 1, 3) := by decide +kernel
theorem dX9_partOnce_35 : decode cX9_partOnce 35 = .ok (.goto (-33), 3) := by decide +kernel
theorem dX9_partOnce_38 : decode cX9_partOnce 38 = .ok (.iconst 0, 1) := by decide +kernel
theorem dX9_partOnce_39 : decode cX9_partOnce 39 = .ok (.istore_n 1, 1) := by decide +kernel
theorem dX9_partOnce_40 : decode cX9_partOnce 40 = .ok (.iconst 0, 1) := by decide +kernel
theorem dX9_partOnce_41 : decode cX9_partOnce 41 = .ok (.istore_n 2, 1) := by decide +kernel
theorem dX9_partOnce_42 : decode cX9_partOnce 42 = .ok (.iload_n 2, 1) := by decide +kernel
theorem dX9_partOnce_43 : decode cX9_partOnce 43 = .ok (.aload_n 0, 1) := by decide +kernel
theorem dX9_partOnce_44 : decode cX9_partOnce 44 = .ok (.getfield 116, 3) := by decide +kernel
theorem dX9_partOnce_47 : decode cX9_partOnce 47 = .ok (.if_icmp .ge 90, 3) := by decide +kernel
theorem dX9_partOnce_50 : decode cX9_partOnce 50 = .ok (.iconst 0, 1) := by decide +kernel
theorem dX9_partOnce_51 : decode cX9_partOnce 51 = .ok (.istore_n 3, 1) := by decide +kernel
theorem dX9_partOnce_52 : decode cX9_partOnce 52 = .ok (.iload_n 3, 1) := by decide +kernel
theorem dX9_partOnce_53 : decode cX9_partOnce 53 = .ok (.aload_n 0, 1) := by decide +kernel
theorem dX9_partOnce_54 : decode cX9_partOnce 54 = .ok (.getfield 116, 3) := by decide +kernel
theorem dX9_partOnce_57 : decode cX9_partOnce 57 = .ok (.if_icmp .ge 74, 3) := by decide +kernel
theorem dX9_partOnce_60 : decode cX9_partOnce 60 = .ok (.bipush 32, 2) := by decide +kernel
theorem dX9_partOnce_62 : decode cX9_partOnce 62 = .ok (.iload_n 2, 1) := by decide +kernel
theorem dX9_partOnce_63 : decode cX9_partOnce 63 = .ok (.imul, 1) := by decide +kernel
theorem dX9_partOnce_64 : decode cX9_partOnce 64 = .ok (.iload_n 3, 1) := by decide +kernel
theorem dX9_partOnce_65 : decode cX9_partOnce 65 = .ok (.iadd, 1) := by decide +kernel
theorem dX9_partOnce_66 : decode cX9_partOnce 66 = .ok (.istore 4, 2) := by decide +kernel
theorem dX9_partOnce_68 : decode cX9_partOnce 68 = .ok (.iconst 0, 1) := by decide +kernel
theorem dX9_partOnce_69 : decode cX9_partOnce 69 = .ok (.istore 5, 2) := by decide +kernel
theorem dX9_partOnce_71 : decode cX9_partOnce 71 = .ok (.iload 5, 2) := by decide +kernel
theorem dX9_partOnce_73 : decode cX9_partOnce 73 = .ok (.iload_n 1, 1) := by decide +kernel
theorem dX9_partOnce_74 : decode cX9_partOnce 74 = .ok (.if_icmp .ge 25, 3) := by decide +kernel
theorem dX9_partOnce_77 : decode cX9_partOnce 77 = .ok (.aload_n 0, 1) := by decide +kernel
theorem dX9_partOnce_78 : decode cX9_partOnce 78 = .ok (.aload_n 0, 1) := by decide +kernel
theorem dX9_partOnce_79 : decode cX9_partOnce 79 = .ok (.getfield 107, 3) := by decide +kernel
theorem dX9_partOnce_82 : decode cX9_partOnce 82 = .ok (.iload 5, 2) := by decide +kernel
theorem dX9_partOnce_84 : decode cX9_partOnce 84 = .ok (.iaload, 1) := by decide +kernel
theorem dX9_partOnce_85 : decode cX9_partOnce 85 = .ok (.iload 4, 2) := by decide +kernel
theorem dX9_partOnce_87 : decode cX9_partOnce 87 = .ok (.invokevirtual 313, 3) := by decide +kernel
theorem dX9_partOnce_90 : decode cX9_partOnce 90 = .ok (.ifCond .ne 9, 3) := by decide +kernel
theorem dX9_partOnce_93 : decode cX9_partOnce 93 = .ok (.iinc 5 1, 3) := by decide +kernel
theorem dX9_partOnce_96 : decode cX9_partOnce 96 = .ok (.goto (-25), 3) := by decide +kernel
theorem dX9_partOnce_99 : decode cX9_partOnce 99 = .ok (.iload 5, 2) := by decide +kernel
theorem dX9_partOnce_101 : decode cX9_partOnce 101 = .ok (.iload_n 1, 1) := by decide +kernel
theorem dX9_partOnce_102 : decode cX9_partOnce 102 = .ok (.if_icmp .ne 14, 3) := by decide +kernel
theorem dX9_partOnce_105 : decode cX9_partOnce 105 = .ok (.aload_n 0, 1) := by decide +kernel
theorem dX9_partOnce_106 : decode cX9_partOnce 106 = .ok (.getfield 107, 3) := by decide +kernel
theorem dX9_partOnce_109 : decode cX9_partOnce 109 = .ok (.iload_n 1, 1) := by decide +kernel
theorem dX9_partOnce_110 : decode cX9_partOnce 110 = .ok (.iload 4, 2) := by decide +kernel
theorem dX9_partOnce_112 : decode cX9_partOnce 112 = .ok (.iastore, 1) := by decide +kernel
theorem dX9_partOnce_113 : decode cX9_partOnce 113 = .ok (.iinc 1 1, 3) := by decide +kernel
theorem dX9_partOnce_116 : decode cX9_partOnce 116 = .ok (.aload_n 0, 1) := by decide +kernel
theorem dX9_partOnce_117 : decode cX9_partOnce 117 = .ok (.getfield 100, 3) := by decide +kernel
theorem dX9_partOnce_120 : decode cX9_partOnce 120 = .ok (.iload 4, 2) := by decide +kernel
theorem dX9_partOnce_122 : decode cX9_partOnce 122 = .ok (.iload 5, 2) := by decide +kernel
theorem dX9_partOnce_124 : decode cX9_partOnce 124 = .ok (.iastore, 1) := by decide +kernel
theorem dX9_partOnce_125 : decode cX9_partOnce 125 = .ok (.iinc 3 1, 3) := by decide +kernel
theorem dX9_partOnce_128 : decode cX9_partOnce 128 = .ok (.goto (-76), 3) := by decide +kernel
theorem dX9_partOnce_131 : decode cX9_partOnce 131 = .ok (.iinc 2 1, 3) := by decide +kernel
theorem dX9_partOnce_134 : decode cX9_partOnce 134 = .ok (.goto (-92), 3) := by decide +kernel
theorem dX9_partOnce_137 : decode cX9_partOnce 137 = .ok (.iconst 0, 1) := by decide +kernel
theorem dX9_partOnce_138 : decode cX9_partOnce 138 = .ok (.istore_n 2, 1) := by decide +kernel
theorem dX9_partOnce_139 : decode cX9_partOnce 139 = .ok (.iload_n 2, 1) := by decide +kernel
theorem dX9_partOnce_140 : decode cX9_partOnce 140 = .ok (.sipush 1024, 3) := by decide +kernel
theorem dX9_partOnce_143 : decode cX9_partOnce 143 = .ok (.if_icmp .ge 21, 3) := by decide +kernel
theorem dX9_partOnce_146 : decode cX9_partOnce 146 = .ok (.aload_n 0, 1) := by decide +kernel
theorem dX9_partOnce_147 : decode cX9_partOnce 147 = .ok (.getfield 97, 3) := by decide +kernel
theorem dX9_partOnce_150 : decode cX9_partOnce 150 = .ok (.iload_n 2, 1) := by decide +kernel
theorem dX9_partOnce_151 : decode cX9_partOnce 151 = .ok (.aload_n 0, 1) := by decide +kernel
theorem dX9_partOnce_152 : decode cX9_partOnce 152 = .ok (.getfield 100, 3) := by decide +kernel
theorem dX9_partOnce_155 : decode cX9_partOnce 155 = .ok (.iload_n 2, 1) := by decide +kernel
theorem dX9_partOnce_156 : decode cX9_partOnce 156 = .ok (.iaload, 1) := by decide +kernel
theorem dX9_partOnce_157 : decode cX9_partOnce 157 = .ok (.iastore, 1) := by decide +kernel
theorem dX9_partOnce_158 : decode cX9_partOnce 158 = .ok (.iinc 2 1, 3) := by decide +kernel
theorem dX9_partOnce_161 : decode cX9_partOnce 161 = .ok (.goto (-22), 3) := by decide +kernel
theorem dX9_partOnce_164 : decode cX9_partOnce 164 = .ok (.iload_n 1, 1) := by decide +kernel
theorem dX9_partOnce_165 : decode cX9_partOnce 165 = .ok (.ireturn, 1) := by decide +kernel
theorem dX9_findKinds_0 : decode cX9_findKinds 0 = .ok (.aload_n 0, 1) := by decide +kernel
theorem dX9_findKinds_1 : decode cX9_findKinds 1 = .ok (.getfield 129, 3) := by decide +kernel
theorem dX9_findKinds_4 : decode cX9_findKinds 4 = .ok (.ifCond .eq 4, 3) := by decide +kernel
theorem dX9_findKinds_7 : decode cX9_findKinds 7 = .ok (.return_, 1) := by decide +kernel
theorem dX9_findKinds_8 : decode cX9_findKinds 8 = .ok (.aload_n 0, 1) := by decide +kernel
theorem dX9_findKinds_9 : decode cX9_findKinds 9 = .ok (.iconst 1, 1) := by decide +kernel
theorem dX9_findKinds_10 : decode cX9_findKinds 10 = .ok (.putfield 129, 3) := by decide +kernel
theorem dX9_findKinds_13 : decode cX9_findKinds 13 = .ok (.iconst 0, 1) := by decide +kernel
theorem dX9_findKinds_14 : decode cX9_findKinds 14 = .ok (.istore_n 1, 1) := by decide +kernel
theorem dX9_findKinds_15 : decode cX9_findKinds 15 = .ok (.iload_n 1, 1) := by decide +kernel
theorem dX9_findKinds_16 : decode cX9_findKinds 16 = .ok (.sipush 1024, 3) := by decide +kernel
theorem dX9_findKinds_19 : decode cX9_findKinds 19 = .ok (.if_icmp .ge 44, 3) := by decide +kernel
theorem dX9_findKinds_22 : decode cX9_findKinds 22 = .ok (.aload_n 0, 1) := by decide +kernel
theorem dX9_findKinds_23 : decode cX9_findKinds 23 = .ok (.getfield 97, 3) := by decide +kernel
theorem dX9_findKinds_26 : decode cX9_findKinds 26 = .ok (.iload_n 1, 1) := by decide +kernel
theorem dX9_findKinds_27 : decode cX9_findKinds 27 = .ok (.iload_n 1, 1) := by decide +kernel
theorem dX9_findKinds_28 : decode cX9_findKinds 28 = .ok (.bipush 32, 2) := by decide +kernel
theorem dX9_findKinds_30 : decode cX9_findKinds 30 = .ok (.idiv, 1) := by decide +kernel
theorem dX9_findKinds_31 : decode cX9_findKinds 31 = .ok (.iload_n 1, 1) := by decide +kernel
theorem dX9_findKinds_32 : decode cX9_findKinds 32 = .ok (.bipush 32, 2) := by decide +kernel
theorem dX9_findKinds_34 : decode cX9_findKinds 34 = .ok (.irem, 1) := by decide +kernel
theorem dX9_findKinds_35 : decode cX9_findKinds 35 = .ok (.if_icmp .ne 7, 3) := by decide +kernel
theorem dX9_findKinds_38 : decode cX9_findKinds 38 = .ok (.iconst 0, 1) := by decide +kernel
theorem dX9_findKinds_39 : decode cX9_findKinds 39 = .ok (.goto 17, 3) := by decide +kernel
theorem dX9_findKinds_42 : decode cX9_findKinds 42 = .ok (.aload_n 0, 1) := by decide +kernel
theorem dX9_findKinds_43 : decode cX9_findKinds 43 = .ok (.getfield 19, 3) := by decide +kernel
theorem dX9_findKinds_46 : decode cX9_findKinds 46 = .ok (.iload_n 1, 1) := by decide +kernel
theorem dX9_findKinds_47 : decode cX9_findKinds 47 = .ok (.baload, 1) := by decide +kernel
theorem dX9_findKinds_48 : decode cX9_findKinds 48 = .ok (.ifCond .eq 7, 3) := by decide +kernel
theorem dX9_findKinds_51 : decode cX9_findKinds 51 = .ok (.iconst 1, 1) := by decide +kernel
theorem dX9_findKinds_52 : decode cX9_findKinds 52 = .ok (.goto 4, 3) := by decide +kernel
theorem dX9_findKinds_55 : decode cX9_findKinds 55 = .ok (.iconst 2, 1) := by decide +kernel
theorem dX9_findKinds_56 : decode cX9_findKinds 56 = .ok (.iastore, 1) := by decide +kernel
theorem dX9_findKinds_57 : decode cX9_findKinds 57 = .ok (.iinc 1 1, 3) := by decide +kernel
theorem dX9_findKinds_60 : decode cX9_findKinds 60 = .ok (.goto (-45), 3) := by decide +kernel
theorem dX9_findKinds_63 : decode cX9_findKinds 63 = .ok (.aload_n 0, 1) := by decide +kernel
theorem dX9_findKinds_64 : decode cX9_findKinds 64 = .ok (.iconst (-1), 1) := by decide +kernel
theorem dX9_findKinds_65 : decode cX9_findKinds 65 = .ok (.putfield 316, 3) := by decide +kernel
theorem dX9_findKinds_68 : decode cX9_findKinds 68 = .ok (.iconst 0, 1) := by decide +kernel
theorem dX9_findKinds_69 : decode cX9_findKinds 69 = .ok (.istore_n 1, 1) := by decide +kernel
theorem dX9_findKinds_70 : decode cX9_findKinds 70 = .ok (.iload_n 1, 1) := by decide +kernel
theorem dX9_findKinds_71 : decode cX9_findKinds 71 = .ok (.aload_n 0, 1) := by decide +kernel
theorem dX9_findKinds_72 : decode cX9_findKinds 72 = .ok (.getfield 316, 3) := by decide +kernel
theorem dX9_findKinds_75 : decode cX9_findKinds 75 = .ok (.if_icmp .eq 16, 3) := by decide +kernel
theorem dX9_findKinds_78 : decode cX9_findKinds 78 = .ok (.aload_n 0, 1) := by decide +kernel
theorem dX9_findKinds_79 : decode cX9_findKinds 79 = .ok (.iload_n 1, 1) := by decide +kernel
theorem dX9_findKinds_80 : decode cX9_findKinds 80 = .ok (.putfield 316, 3) := by decide +kernel
theorem dX9_findKinds_83 : decode cX9_findKinds 83 = .ok (.aload_n 0, 1) := by decide +kernel
theorem dX9_findKinds_84 : decode cX9_findKinds 84 = .ok (.invokevirtual 319, 3) := by decide +kernel
theorem dX9_findKinds_87 : decode cX9_findKinds 87 = .ok (.istore_n 1, 1) := by decide +kernel
theorem dX9_findKinds_88 : decode cX9_findKinds 88 = .ok (.goto (-18), 3) := by decide +kernel
theorem dX9_findKinds_91 : decode cX9_findKinds 91 = .ok (.return_, 1) := by decide +kernel
theorem dX9_kinds_0 : decode cX9_kinds 0 = .ok (.aload_n 0, 1) := by decide +kernel
theorem dX9_kinds_1 : decode cX9_kinds 1 = .ok (.invokevirtual 322, 3) := by decide +kernel
theorem dX9_kinds_4 : decode cX9_kinds 4 = .ok (.aload_n 0, 1) := by decide +kernel
theorem dX9_kinds_5 : decode cX9_kinds 5 = .ok (.getfield 316, 3) := by decide +kernel
theorem dX9_kinds_8 : decode cX9_kinds 8 = .ok (.ireturn, 1) := by decide +kernel
theorem dX9_kind_0 : decode cX9_kind 0 = .ok (.aload_n 0, 1) := by decide +kernel
theorem dX9_kind_1 : decode cX9_kind 1 = .ok (.iload_n 1, 1) := by decide +kernel
theorem dX9_kind_2 : decode cX9_kind 2 = .ok (.invokevirtual 138, 3) := by decide +kernel
theorem dX9_kind_5 : decode cX9_kind 5 = .ok (.ifCond .eq 11, 3) := by decide +kernel
theorem dX9_kind_8 : decode cX9_kind 8 = .ok (.aload_n 0, 1) := by decide +kernel
theorem dX9_kind_9 : decode cX9_kind 9 = .ok (.iload_n 2, 1) := by decide +kernel
theorem dX9_kind_10 : decode cX9_kind 10 = .ok (.invokevirtual 138, 3) := by decide +kernel
theorem dX9_kind_13 : decode cX9_kind 13 = .ok (.ifCond .ne 5, 3) := by decide +kernel
theorem dX9_kind_16 : decode cX9_kind 16 = .ok (.iconst (-1), 1) := by decide +kernel
theorem dX9_kind_17 : decode cX9_kind 17 = .ok (.ireturn, 1) := by decide +kernel
theorem dX9_kind_18 : decode cX9_kind 18 = .ok (.aload_n 0, 1) := by decide +kernel
theorem dX9_kind_19 : decode cX9_kind 19 = .ok (.invokevirtual 322, 3) := by decide +kernel
theorem dX9_kind_22 : decode cX9_kind 22 = .ok (.aload_n 0, 1) := by decide +kernel
theorem dX9_kind_23 : decode cX9_kind 23 = .ok (.getfield 97, 3) := by decide +kernel
theorem dX9_kind_26 : decode cX9_kind 26 = .ok (.bipush 32, 2) := by decide +kernel
theorem dX9_kind_28 : decode cX9_kind 28 = .ok (.iload_n 1, 1) := by decide +kernel
theorem dX9_kind_29 : decode cX9_kind 29 = .ok (.imul, 1) := by decide +kernel
theorem dX9_kind_30 : decode cX9_kind 30 = .ok (.iload_n 2, 1) := by decide +kernel
theorem dX9_kind_31 : decode cX9_kind 31 = .ok (.iadd, 1) := by decide +kernel
theorem dX9_kind_32 : decode cX9_kind 32 = .ok (.iaload, 1) := by decide +kernel
theorem dX9_kind_33 : decode cX9_kind 33 = .ok (.ireturn, 1) := by decide +kernel
theorem dJ6_bitCount_0f7a4_0 : decode cJ6_bitCount_0f7a4 0 = .ok (.iload_n 0, 1) := by decide +kernel
theorem dJ6_bitCount_0f7a4_1 : decode cJ6_bitCount_0f7a4 1 = .ok (.iload_n 0, 1) := by decide +kernel
theorem dJ6_bitCount_0f7a4_2 : decode cJ6_bitCount_0f7a4 2 = .ok (.iconst 1, 1) := by decide +kernel
theorem dJ6_bitCount_0f7a4_3 : decode cJ6_bitCount_0f7a4 3 = .ok (.iushr, 1) := by decide +kernel
theorem dJ6_bitCount_0f7a4_4 : decode cJ6_bitCount_0f7a4 4 = .ok (.ldc_w 265, 3) := by decide +kernel
theorem dJ6_bitCount_0f7a4_7 : decode cJ6_bitCount_0f7a4 7 = .ok (.iand, 1) := by decide +kernel
theorem dJ6_bitCount_0f7a4_8 : decode cJ6_bitCount_0f7a4 8 = .ok (.isub, 1) := by decide +kernel
theorem dJ6_bitCount_0f7a4_9 : decode cJ6_bitCount_0f7a4 9 = .ok (.istore_n 0, 1) := by decide +kernel
theorem dJ6_bitCount_0f7a4_10 : decode cJ6_bitCount_0f7a4 10 = .ok (.iload_n 0, 1) := by decide +kernel
theorem dJ6_bitCount_0f7a4_11 : decode cJ6_bitCount_0f7a4 11 = .ok (.ldc_w 266, 3) := by decide +kernel
theorem dJ6_bitCount_0f7a4_14 : decode cJ6_bitCount_0f7a4 14 = .ok (.iand, 1) := by decide +kernel
theorem dJ6_bitCount_0f7a4_15 : decode cJ6_bitCount_0f7a4 15 = .ok (.iload_n 0, 1) := by decide +kernel
theorem dJ6_bitCount_0f7a4_16 : decode cJ6_bitCount_0f7a4 16 = .ok (.iconst 2, 1) := by decide +kernel
theorem dJ6_bitCount_0f7a4_17 : decode cJ6_bitCount_0f7a4 17 = .ok (.iushr, 1) := by decide +kernel
theorem dJ6_bitCount_0f7a4_18 : decode cJ6_bitCount_0f7a4 18 = .ok (.ldc_w 266, 3) := by decide +kernel
theorem dJ6_bitCount_0f7a4_21 : decode cJ6_bitCount_0f7a4 21 = .ok (.iand, 1) := by decide +kernel
theorem dJ6_bitCount_0f7a4_22 : decode cJ6_bitCount_0f7a4 22 = .ok (.iadd, 1) := by decide +kernel
theorem dJ6_bitCount_0f7a4_23 : decode cJ6_bitCount_0f7a4 23 = .ok (.istore_n 0, 1) := by decide +kernel
theorem dJ6_bitCount_0f7a4_24 : decode cJ6_bitCount_0f7a4 24 = .ok (.iload_n 0, 1) := by decide +kernel
theorem dJ6_bitCount_0f7a4_25 : decode cJ6_bitCount_0f7a4 25 = .ok (.iload_n 0, 1) := by decide +kernel
theorem dJ6_bitCount_0f7a4_26 : decode cJ6_bitCount_0f7a4 26 = .ok (.iconst 4, 1) := by decide +kernel
theorem dJ6_bitCount_0f7a4_27 : decode cJ6_bitCount_0f7a4 27 = .ok (.iushr, 1) := by decide +kernel
theorem dJ6_bitCount_0f7a4_28 : decode cJ6_bitCount_0f7a4 28 = .ok (.iadd, 1) := by decide +kernel
theorem dJ6_bitCount_0f7a4_29 : decode cJ6_bitCount_0f7a4 29 = .ok (.ldc_w 267, 3) := by decide +kernel
theorem dJ6_bitCount_0f7a4_32 : decode cJ6_bitCount_0f7a4 32 = .ok (.iand, 1) := by decide +kernel
theorem dJ6_bitCount_0f7a4_33 : decode cJ6_bitCount_0f7a4 33 = .ok (.istore_n 0, 1) := by decide +kernel
theorem dJ6_bitCount_0f7a4_34 : decode cJ6_bitCount_0f7a4 34 = .ok (.iload_n 0, 1) := by decide +kernel
theorem dJ6_bitCount_0f7a4_35 : decode cJ6_bitCount_0f7a4 35 = .ok (.iload_n 0, 1) := by decide +kernel
theorem dJ6_bitCount_0f7a4_36 : decode cJ6_bitCount_0f7a4 36 = .ok (.bipush 8, 2) := by decide +kernel
theorem dJ6_bitCount_0f7a4_38 : decode cJ6_bitCount_0f7a4 38 = .ok (.iushr, 1) := by decide +kernel
theorem dJ6_bitCount_0f7a4_39 : decode cJ6_bitCount_0f7a4 39 = .ok (.iadd, 1) := by decide +kernel
theorem dJ6_bitCount_0f7a4_40 : decode cJ6_bitCount_0f7a4 40 = .ok (.istore_n 0, 1) := by decide +kernel
theorem dJ6_bitCount_0f7a4_41 : decode cJ6_bitCount_0f7a4 41 = .ok (.iload_n 0, 1) := by decide +kernel
theorem dJ6_bitCount_0f7a4_42 : decode cJ6_bitCount_0f7a4 42 = .ok (.iload_n 0, 1) := by decide +kernel
theorem dJ6_bitCount_0f7a4_43 : decode cJ6_bitCount_0f7a4 43 = .ok (.bipush 16, 2) := by decide +kernel
theorem dJ6_bitCount_0f7a4_45 : decode cJ6_bitCount_0f7a4 45 = .ok (.iushr, 1) := by decide +kernel
theorem dJ6_bitCount_0f7a4_46 : decode cJ6_bitCount_0f7a4 46 = .ok (.iadd, 1) := by decide +kernel
theorem dJ6_bitCount_0f7a4_47 : decode cJ6_bitCount_0f7a4 47 = .ok (.istore_n 0, 1) := by decide +kernel
theorem dJ6_bitCount_0f7a4_48 : decode cJ6_bitCount_0f7a4 48 = .ok (.iload_n 0, 1) := by decide +kernel
theorem dJ6_bitCount_0f7a4_49 : decode cJ6_bitCount_0f7a4 49 = .ok (.bipush 63, 2) := by decide +kernel
theorem dJ6_bitCount_0f7a4_51 : decode cJ6_bitCount_0f7a4 51 = .ok (.iand, 1) := by decide +kernel
theorem dJ6_bitCount_0f7a4_52 : decode cJ6_bitCount_0f7a4 52 = .ok (.ireturn, 1) := by decide +kernel
theorem dJ13_bitCount_95d88_0 : decode cJ13_bitCount_95d88 0 = .ok (.lload_n 0, 1) := by decide +kernel
theorem dJ13_bitCount_95d88_1 : decode cJ13_bitCount_95d88 1 = .ok (.lload_n 0, 1) := by decide +kernel
theorem dJ13_bitCount_95d88_2 : decode cJ13_bitCount_95d88 2 = .ok (.iconst 1, 1) := by decide +kernel
theorem dJ13_bitCount_95d88_3 : decode cJ13_bitCount_95d88 3 = .ok (.lushr, 1) := by decide +kernel
theorem dJ13_bitCount_95d88_4 : decode cJ13_bitCount_95d88 4 = .ok (.ldc2_w 314, 3) := by decide +kernel
theorem dJ13_bitCount_95d88_7 : decode cJ13_bitCount_95d88 7 = .ok (.land, 1) := by decide +kernel
theorem dJ13_bitCount_95d88_8 : decode cJ13_bitCount_95d88 8 = .ok (.lsub, 1) := by decide +kernel
theorem dJ13_bitCount_95d88_9 : decode cJ13_bitCount_95d88 9 = .ok (.lstore_n 0, 1) := by decide +kernel
theorem dJ13_bitCount_95d88_10 : decode cJ13_bitCount_95d88 10 = .ok (.lload_n 0, 1) := by decide +kernel
theorem dJ13_bitCount_95d88_11 : decode cJ13_bitCount_95d88 11 = .ok (.ldc2_w 316, 3) := by decide +kernel
theorem dJ13_bitCount_95d88_14 : decode cJ13_bitCount_95d88 14 = .ok (.land, 1) := by decide +kernel
theorem dJ13_bitCount_95d88_15 : decode cJ13_bitCount_95d88 15 = .ok (.lload_n 0, 1) := by decide +kernel
theorem dJ13_bitCount_95d88_16 : decode cJ13_bitCount_95d88 16 = .ok (.iconst 2, 1) := by decide +kernel
theorem dJ13_bitCount_95d88_17 : decode cJ13_bitCount_95d88 17 = .ok (.lushr, 1) := by decide +kernel
theorem dJ13_bitCount_95d88_18 : decode cJ13_bitCount_95d88 18 = .ok (.ldc2_w 316, 3) := by decide +kernel
theorem dJ13_bitCount_95d88_21 : decode cJ13_bitCount_95d88 21 = .ok (.land, 1) := by decide +kernel
theorem dJ13_bitCount_95d88_22 : decode cJ13_bitCount_95d88 22 = .ok (.ladd, 1) := by decide +kernel
theorem dJ13_bitCount_95d88_23 : decode cJ13_bitCount_95d88 23 = .ok (.lstore_n 0, 1) := by decide +kernel
theorem dJ13_bitCount_95d88_24 : decode cJ13_bitCount_95d88 24 = .ok (.lload_n 0, 1) := by decide +kernel
theorem dJ13_bitCount_95d88_25 : decode cJ13_bitCount_95d88 25 = .ok (.lload_n 0, 1) := by decide +kernel
theorem dJ13_bitCount_95d88_26 : decode cJ13_bitCount_95d88 26 = .ok (.iconst 4, 1) := by decide +kernel
theorem dJ13_bitCount_95d88_27 : decode cJ13_bitCount_95d88 27 = .ok (.lushr, 1) := by decide +kernel
theorem dJ13_bitCount_95d88_28 : decode cJ13_bitCount_95d88 28 = .ok (.ladd, 1) := by decide +kernel
theorem dJ13_bitCount_95d88_29 : decode cJ13_bitCount_95d88 29 = .ok (.ldc2_w 318, 3) := by decide +kernel
theorem dJ13_bitCount_95d88_32 : decode cJ13_bitCount_95d88 32 = .ok (.land, 1) := by decide +kernel
theorem dJ13_bitCount_95d88_33 : decode cJ13_bitCount_95d88 33 = .ok (.lstore_n 0, 1) := by decide +kernel
theorem dJ13_bitCount_95d88_34 : decode cJ13_bitCount_95d88 34 = .ok (.lload_n 0, 1) := by decide +kernel
theorem dJ13_bitCount_95d88_35 : decode cJ13_bitCount_95d88 35 = .ok (.lload_n 0, 1) := by decide +kernel
theorem dJ13_bitCount_95d88_36 : decode cJ13_bitCount_95d88 36 = .ok (.bipush 8, 2) := by decide +kernel
theorem dJ13_bitCount_95d88_38 : decode cJ13_bitCount_95d88 38 = .ok (.lushr, 1) := by decide +kernel
theorem dJ13_bitCount_95d88_39 : decode cJ13_bitCount_95d88 39 = .ok (.ladd, 1) := by decide +kernel
theorem dJ13_bitCount_95d88_40 : decode cJ13_bitCount_95d88 40 = .ok (.lstore_n 0, 1) := by decide +kernel
theorem dJ13_bitCount_95d88_41 : decode cJ13_bitCount_95d88 41 = .ok (.lload_n 0, 1) := by decide +kernel
theorem dJ13_bitCount_95d88_42 : decode cJ13_bitCount_95d88 42 = .ok (.lload_n 0, 1) := by decide +kernel
theorem dJ13_bitCount_95d88_43 : decode cJ13_bitCount_95d88 43 = .ok (.bipush 16, 2) := by decide +kernel
theorem dJ13_bitCount_95d88_45 : decode cJ13_bitCount_95d88 45 = .ok (.lushr, 1) := by decide +kernel
theorem dJ13_bitCount_95d88_46 : decode cJ13_bitCount_95d88 46 = .ok (.ladd, 1) := by decide +kernel
theorem dJ13_bitCount_95d88_47 : decode cJ13_bitCount_95d88 47 = .ok (.lstore_n 0, 1) := by decide +kernel
theorem dJ13_bitCount_95d88_48 : decode cJ13_bitCount_95d88 48 = .ok (.lload_n 0, 1) := by decide +kernel
theorem dJ13_bitCount_95d88_49 : decode cJ13_bitCount_95d88 49 = .ok (.lload_n 0, 1) := by decide +kernel
theorem dJ13_bitCount_95d88_50 : decode cJ13_bitCount_95d88 50 = .ok (.bipush 32, 2) := by decide +kernel
theorem dJ13_bitCount_95d88_52 : decode cJ13_bitCount_95d88 52 = .ok (.lushr, 1) := by decide +kernel
theorem dJ13_bitCount_95d88_53 : decode cJ13_bitCount_95d88 53 = .ok (.ladd, 1) := by decide +kernel
theorem dJ13_bitCount_95d88_54 : decode cJ13_bitCount_95d88 54 = .ok (.lstore_n 0, 1) := by decide +kernel
theorem dJ13_bitCount_95d88_55 : decode cJ13_bitCount_95d88 55 = .ok (.lload_n 0, 1) := by decide +kernel
theorem dJ13_bitCount_95d88_56 : decode cJ13_bitCount_95d88 56 = .ok (.l2i, 1) := by decide +kernel
theorem dJ13_bitCount_95d88_57 : decode cJ13_bitCount_95d88 57 = .ok (.bipush 127, 2) := by decide +kernel
theorem dJ13_bitCount_95d88_59 : decode cJ13_bitCount_95d88 59 = .ok (.iand, 1) := by decide +kernel
theorem dJ13_bitCount_95d88_60 : decode cJ13_bitCount_95d88 60 = .ok (.ireturn, 1) := by decide +kernel
theorem dJ9_max_7cf53_0 : decode cJ9_max_7cf53 0 = .ok (.iload_n 0, 1) := by decide +kernel
theorem dJ9_max_7cf53_1 : decode cJ9_max_7cf53 1 = .ok (.iload_n 1, 1) := by decide +kernel
theorem dJ9_max_7cf53_2 : decode cJ9_max_7cf53 2 = .ok (.if_icmp .lt 7, 3) := by decide +kernel
theorem dJ9_max_7cf53_5 : decode cJ9_max_7cf53 5 = .ok (.iload_n 0, 1) := by decide +kernel
theorem dJ9_max_7cf53_6 : decode cJ9_max_7cf53 6 = .ok (.goto 4, 3) := by decide +kernel
theorem dJ9_max_7cf53_9 : decode cJ9_max_7cf53 9 = .ok (.iload_n 1, 1) := by decide +kernel
theorem dJ9_max_7cf53_10 : decode cJ9_max_7cf53 10 = .ok (.ireturn, 1) := by decide +kernel
theorem dJ7_fill_d0a16_0 : decode cJ7_fill_d0a16 0 = .ok (.iconst 0, 1) := by decide +kernel
theorem dJ7_fill_d0a16_1 : decode cJ7_fill_d0a16 1 = .ok (.istore_n 3, 1) := by decide +kernel
theorem dJ7_fill_d0a16_2 : decode cJ7_fill_d0a16 2 = .ok (.aload_n 0, 1) := by decide +kernel
theorem dJ7_fill_d0a16_3 : decode cJ7_fill_d0a16 3 = .ok (.arraylength, 1) := by decide +kernel
theorem dJ7_fill_d0a16_4 : decode cJ7_fill_d0a16 4 = .ok (.istore 4, 2) := by decide +kernel
theorem dJ7_fill_d0a16_6 : decode cJ7_fill_d0a16 6 = .ok (.iload_n 3, 1) := by decide +kernel
theorem dJ7_fill_d0a16_7 : decode cJ7_fill_d0a16 7 = .ok (.iload 4, 2) := by decide +kernel
theorem dJ7_fill_d0a16_9 : decode cJ7_fill_d0a16 9 = .ok (.if_icmp .ge 13, 3) := by decide +kernel
theorem dJ7_fill_d0a16_12 : decode cJ7_fill_d0a16 12 = .ok (.aload_n 0, 1) := by decide +kernel
theorem dJ7_fill_d0a16_13 : decode cJ7_fill_d0a16 13 = .ok (.iload_n 3, 1) := by decide +kernel
theorem dJ7_fill_d0a16_14 : decode cJ7_fill_d0a16 14 = .ok (.lload_n 1, 1) := by decide +kernel
theorem dJ7_fill_d0a16_15 : decode cJ7_fill_d0a16 15 = .ok (.lastore, 1) := by decide +kernel
theorem dJ7_fill_d0a16_16 : decode cJ7_fill_d0a16 16 = .ok (.iinc 3 1, 3) := by decide +kernel
theorem dJ7_fill_d0a16_19 : decode cJ7_fill_d0a16 19 = .ok (.goto (-13), 3) := by decide +kernel
theorem dJ7_fill_d0a16_22 : decode cJ7_fill_d0a16 22 = .ok (.return_, 1) := by decide +kernel
theorem dJ7_fill_53178_0 : decode cJ7_fill_53178 0 = .ok (.iconst 0, 1) := by decide +kernel
theorem dJ7_fill_53178_1 : decode cJ7_fill_53178 1 = .ok (.istore_n 2, 1) := by decide +kernel
theorem dJ7_fill_53178_2 : decode cJ7_fill_53178 2 = .ok (.aload_n 0, 1) := by decide +kernel
theorem dJ7_fill_53178_3 : decode cJ7_fill_53178 3 = .ok (.arraylength, 1) := by decide +kernel
theorem dJ7_fill_53178_4 : decode cJ7_fill_53178 4 = .ok (.istore_n 3, 1) := by decide +kernel
theorem dJ7_fill_53178_5 : decode cJ7_fill_53178 5 = .ok (.iload_n 2, 1) := by decide +kernel
theorem dJ7_fill_53178_6 : decode cJ7_fill_53178 6 = .ok (.iload_n 3, 1) := by decide +kernel
theorem dJ7_fill_53178_7 : decode cJ7_fill_53178 7 = .ok (.if_icmp .ge 13, 3) := by decide +kernel
theorem dJ7_fill_53178_10 : decode cJ7_fill_53178 10 = .ok (.aload_n 0, 1) := by decide +kernel
theorem dJ7_fill_53178_11 : decode cJ7_fill_53178 11 = .ok (.iload_n 2, 1) := by decide +kernel
theorem dJ7_fill_53178_12 : decode cJ7_fill_53178 12 = .ok (.iload_n 1, 1) := by decide +kernel
theorem dJ7_fill_53178_13 : decode cJ7_fill_53178 13 = .ok (.iastore, 1) := by decide +kernel
theorem dJ7_fill_53178_14 : decode cJ7_fill_53178 14 = .ok (.iinc 2 1, 3) := by decide +kernel
theorem dJ7_fill_53178_17 : decode cJ7_fill_53178 17 = .ok (.goto (-12), 3) := by decide +kernel
theorem dJ7_fill_53178_20 : decode cJ7_fill_53178 20 = .ok (.return_, 1) := by decide +kernel
abbrev vwCl : List vw_C := [(RX0, TX0, 7), (RX1, TX1, 1), (RX2, TX2, 2), (RX3, TX3, 11), (RX4, TX4, 6), (RX5, TX5, 4), (RX6, TX6, 13), (RX7, TX7, 7), (RX8, TX8, 13), (RX9, TX9, 44)]
