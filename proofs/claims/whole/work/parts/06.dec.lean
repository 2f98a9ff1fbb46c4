theorem dX12_twoOf_33 : decode cX12_twoOf 33 = .ok (.iload_n 3, 1) := by decide +kernel
theorem dX12_twoOf_34 : decode cX12_twoOf 34 = .ok (.idiv, 1) := by decide +kernel
theorem dX12_twoOf_35 : decode cX12_twoOf 35 = .ok (.ireturn, 1) := by decide +kernel
theorem dX12_twoOf_36 : decode cX12_twoOf 36 = .ok (.iload_n 1, 1) := by decide +kernel
theorem dX12_twoOf_37 : decode cX12_twoOf 37 = .ok (.bipush 6, 2) := by decide +kernel
theorem dX12_twoOf_39 : decode cX12_twoOf 39 = .ok (.if_icmp .ne 14, 3) := by decide +kernel
theorem dX12_twoOf_42 : decode cX12_twoOf 42 = .ok (.iload_n 2, 1) := by decide +kernel
theorem dX12_twoOf_43 : decode cX12_twoOf 43 = .ok (.iload_n 3, 1) := by decide +kernel
theorem dX12_twoOf_44 : decode cX12_twoOf 44 = .ok (.if_icmp .ge 7, 3) := by decide +kernel
theorem dX12_twoOf_47 : decode cX12_twoOf 47 = .ok (.iconst 1, 1) := by decide +kernel
theorem dX12_twoOf_48 : decode cX12_twoOf 48 = .ok (.goto 4, 3) := by decide +kernel
theorem dX12_twoOf_51 : decode cX12_twoOf 51 = .ok (.iconst 0, 1) := by decide +kernel
theorem dX12_twoOf_52 : decode cX12_twoOf 52 = .ok (.ireturn, 1) := by decide +kernel
theorem dX12_twoOf_53 : decode cX12_twoOf 53 = .ok (.iload_n 1, 1) := by decide +kernel
theorem dX12_twoOf_54 : decode cX12_twoOf 54 = .ok (.bipush 7, 2) := by decide +kernel
theorem dX12_twoOf_56 : decode cX12_twoOf 56 = .ok (.if_icmp .ne 14, 3) := by decide +kernel
theorem dX12_twoOf_59 : decode cX12_twoOf 59 = .ok (.iload_n 2, 1) := by decide +kernel
theorem dX12_twoOf_60 : decode cX12_twoOf 60 = .ok (.iload_n 3, 1) := by decide +kernel
theorem dX12_twoOf_61 : decode cX12_twoOf 61 = .ok (.if_icmp .ne 7, 3) := by decide +kernel
theorem dX12_twoOf_64 : decode cX12_twoOf 64 = .ok (.iconst 1, 1) := by decide +kernel
theorem dX12_twoOf_65 : decode cX12_twoOf 65 = .ok (.goto 4, 3) := by decide +kernel
theorem dX12_twoOf_68 : decode cX12_twoOf 68 = .ok (.iconst 0, 1) := by decide +kernel
theorem dX12_twoOf_69 : decode cX12_twoOf 69 = .ok (.ireturn, 1) := by decide +kernel
theorem dX12_twoOf_70 : decode cX12_twoOf 70 = .ok (.iload_n 1, 1) := by decide +kernel
theorem dX12_twoOf_71 : decode cX12_twoOf 71 = .ok (.bipush 8, 2) := by decide +kernel
theorem dX12_twoOf_73 : decode cX12_twoOf 73 = .ok (.if_icmp .ne 14, 3) := by decide +kernel
theorem dX12_twoOf_76 : decode cX12_twoOf 76 = .ok (.iload_n 2, 1) := by decide +kernel
theorem dX12_twoOf_77 : decode cX12_twoOf 77 = .ok (.iload_n 3, 1) := by decide +kernel
theorem dX12_twoOf_78 : decode cX12_twoOf 78 = .ok (.if_icmp .le 7, 3) := by decide +kernel
theorem dX12_twoOf_81 : decode cX12_twoOf 81 = .ok (.iconst 1, 1) := by decide +kernel
theorem dX12_twoOf_82 : decode cX12_twoOf 82 = .ok (.goto 4, 3) := by decide +kernel
theorem dX12_twoOf_85 : decode cX12_twoOf 85 = .ok (.iconst 0, 1) := by decide +kernel
theorem dX12_twoOf_86 : decode cX12_twoOf 86 = .ok (.ireturn, 1) := by decide +kernel
theorem dX12_twoOf_87 : decode cX12_twoOf 87 = .ok (.iload_n 1, 1) := by decide +kernel
theorem dX12_twoOf_88 : decode cX12_twoOf 88 = .ok (.bipush 10, 2) := by decide +kernel
theorem dX12_twoOf_90 : decode cX12_twoOf 90 = .ok (.if_icmp .ne 9, 3) := by decide +kernel
theorem dX12_twoOf_93 : decode cX12_twoOf 93 = .ok (.iload_n 2, 1) := by decide +kernel
theorem dX12_twoOf_94 : decode cX12_twoOf 94 = .ok (.iload_n 3, 1) := by decide +kernel
theorem dX12_twoOf_95 : decode cX12_twoOf 95 = .ok (.imul, 1) := by decide +kernel
theorem dX12_twoOf_96 : decode cX12_twoOf 96 = .ok (.goto 14, 3) := by decide +kernel
theorem dX12_twoOf_99 : decode cX12_twoOf 99 = .ok (.iload_n 2, 1) := by decide +kernel
theorem dX12_twoOf_100 : decode cX12_twoOf 100 = .ok (.iload_n 3, 1) := by decide +kernel
theorem dX12_twoOf_101 : decode cX12_twoOf 101 = .ok (.iadd, 1) := by decide +kernel
theorem dX12_twoOf_102 : decode cX12_twoOf 102 = .ok (.ifCond .le 7, 3) := by decide +kernel
theorem dX12_twoOf_105 : decode cX12_twoOf 105 = .ok (.iconst 1, 1) := by decide +kernel
theorem dX12_twoOf_106 : decode cX12_twoOf 106 = .ok (.goto 4, 3) := by decide +kernel
theorem dX12_twoOf_109 : decode cX12_twoOf 109 = .ok (.iconst 0, 1) := by decide +kernel
theorem dX12_twoOf_110 : decode cX12_twoOf 110 = .ok (.ireturn, 1) := by decide +kernel
theorem dX12_runsCode_0 : decode cX12_runsCode 0 = .ok (.iconst 0, 1) := by decide +kernel
theorem dX12_runsCode_1 : decode cX12_runsCode 1 = .ok (.istore 4, 2) := by decide +kernel
theorem dX12_runsCode_3 : decode cX12_runsCode 3 = .ok (.sipush 400, 3) := by decide +kernel
theorem dX12_runsCode_6 : decode cX12_runsCode 6 = .ok (.iload_n 1, 1) := by decide +kernel
theorem dX12_runsCode_7 : decode cX12_runsCode 7 = .ok (.imul, 1) := by decide +kernel
theorem dX12_runsCode_8 : decode cX12_runsCode 8 = .ok (.iload_n 2, 1) := by decide +kernel
theorem dX12_runsCode_9 : decode cX12_runsCode 9 = .ok (.iadd, 1) := by decide +kernel
theorem dX12_runsCode_10 : decode cX12_runsCode 10 = .ok (.istore 5, 2) := by decide +kernel
theorem dX12_runsCode_12 : decode cX12_runsCode 12 = .ok (.iload 5, 2) := by decide +kernel
theorem dX12_runsCode_14 : decode cX12_runsCode 14 = .ok (.sipush 400, 3) := by decide +kernel
theorem dX12_runsCode_17 : decode cX12_runsCode 17 = .ok (.iload_n 1, 1) := by decide +kernel
theorem dX12_runsCode_18 : decode cX12_runsCode 18 = .ok (.imul, 1) := by decide +kernel
theorem dX12_runsCode_19 : decode cX12_runsCode 19 = .ok (.iload_n 3, 1) := by decide +kernel
theorem dX12_runsCode_20 : decode cX12_runsCode 20 = .ok (.iadd, 1) := by decide +kernel
theorem dX12_runsCode_21 : decode cX12_runsCode 21 = .ok (.if_icmp .ge 155, 3) := by decide +kernel
theorem dX12_runsCode_24 : decode cX12_runsCode 24 = .ok (.aload_n 0, 1) := by decide +kernel
theorem dX12_runsCode_25 : decode cX12_runsCode 25 = .ok (.getfield 55, 3) := by decide +kernel
theorem dX12_runsCode_28 : decode cX12_runsCode 28 = .ok (.iload 5, 2) := by decide +kernel
theorem dX12_runsCode_30 : decode cX12_runsCode 30 = .ok (.iaload, 1) := by decide +kernel
theorem dX12_runsCode_31 : decode cX12_runsCode 31 = .ok (.ifCond .eq 14, 3) := by decide +kernel
theorem dX12_runsCode_34 : decode cX12_runsCode 34 = .ok (.aload_n 0, 1) := by decide +kernel
theorem dX12_runsCode_35 : decode cX12_runsCode 35 = .ok (.getfield 55, 3) := by decide +kernel
theorem dX12_runsCode_38 : decode cX12_runsCode 38 = .ok (.iload 5, 2) := by decide +kernel
theorem dX12_runsCode_40 : decode cX12_runsCode 40 = .ok (.iaload, 1) := by decide +kernel
theorem dX12_runsCode_41 : decode cX12_runsCode 41 = .ok (.iconst 1, 1) := by decide +kernel
theorem dX12_runsCode_42 : decode cX12_runsCode 42 = .ok (.if_icmp .ne 51, 3) := by decide +kernel
theorem dX12_runsCode_45 : decode cX12_runsCode 45 = .ok (.aload_n 0, 1) := by decide +kernel
theorem dX12_runsCode_46 : decode cX12_runsCode 46 = .ok (.getfield 80, 3) := by decide +kernel
theorem dX12_runsCode_49 : decode cX12_runsCode 49 = .ok (.iload 4, 2) := by decide +kernel
theorem dX12_runsCode_51 : decode cX12_runsCode 51 = .ok (.aload_n 0, 1) := by decide +kernel
theorem dX12_runsCode_52 : decode cX12_runsCode 52 = .ok (.getfield 55, 3) := by decide +kernel
theorem dX12_runsCode_55 : decode cX12_runsCode 55 = .ok (.iload 5, 2) := by decide +kernel
theorem dX12_runsCode_57 : decode cX12_runsCode 57 = .ok (.iaload, 1) := by decide +kernel
theorem dX12_runsCode_58 : decode cX12_runsCode 58 = .ok (.ifCond .ne 13, 3) := by decide +kernel
theorem dX12_runsCode_61 : decode cX12_runsCode 61 = .ok (.aload_n 0, 1) := by decide +kernel
theorem dX12_runsCode_62 : decode cX12_runsCode 62 = .ok (.getfield 58, 3) := by decide +kernel
theorem dX12_runsCode_65 : decode cX12_runsCode 65 = .ok (.iload 5, 2) := by decide +kernel
theorem dX12_runsCode_67 : decode cX12_runsCode 67 = .ok (.iaload, 1) := by decide +kernel
theorem dX12_runsCode_68 : decode cX12_runsCode 68 = .ok (.goto 15, 3) := by decide +kernel
theorem dX12_runsCode_71 : decode cX12_runsCode 71 = .ok (.aload_n 0, 1) := by decide +kernel
theorem dX12_runsCode_72 : decode cX12_runsCode 72 = .ok (.getfield 77, 3) := by decide +kernel
theorem dX12_runsCode_75 : decode cX12_runsCode 75 = .ok (.aload_n 0, 1) := by decide +kernel
theorem dX12_runsCode_76 : decode cX12_runsCode 76 = .ok (.getfield 58, 3) := by decide +kernel
theorem dX12_runsCode_79 : decode cX12_runsCode 79 = .ok (.iload 5, 2) := by decide +kernel
theorem dX12_runsCode_81 : decode cX12_runsCode 81 = .ok (.iaload, 1) := by decide +kernel
theorem dX12_runsCode_82 : decode cX12_runsCode 82 = .ok (.iaload, 1) := by decide +kernel
theorem dX12_runsCode_83 : decode cX12_runsCode 83 = .ok (.iastore, 1) := by decide +kernel
theorem dX12_runsCode_84 : decode cX12_runsCode 84 = .ok (.iload 4, 2) := by decide +kernel
theorem dX12_runsCode_86 : decode cX12_runsCode 86 = .ok (.iconst 1, 1) := by decide +kernel
theorem dX12_runsCode_87 : decode cX12_runsCode 87 = .ok (.iadd, 1) := by decide +kernel
theorem dX12_runsCode_88 : decode cX12_runsCode 88 = .ok (.istore 4, 2) := by decide +kernel
theorem dX12_runsCode_90 : decode cX12_runsCode 90 = .ok (.goto 80, 3) := by decide +kernel
theorem dX12_runsCode_93 : decode cX12_runsCode 93 = .ok (.aload_n 0, 1) := by decide +kernel
theorem dX12_runsCode_94 : decode cX12_runsCode 94 = .ok (.getfield 55, 3) := by decide +kernel
theorem dX12_runsCode_97 : decode cX12_runsCode 97 = .ok (.iload 5, 2) := by decide +kernel
theorem dX12_runsCode_99 : decode cX12_runsCode 99 = .ok (.iaload, 1) := by decide +kernel
theorem dX12_runsCode_100 : decode cX12_runsCode 100 = .ok (.bipush 9, 2) := by decide +kernel
theorem dX12_runsCode_102 : decode cX12_runsCode 102 = .ok (.if_icmp .ne 26, 3) := by decide +kernel
theorem dX12_runsCode_105 : decode cX12_runsCode 105 = .ok (.aload_n 0, 1) := by decide +kernel
theorem dX12_runsCode_106 : decode cX12_runsCode 106 = .ok (.getfield 80, 3) := by decide +kernel
theorem dX12_runsCode_109 : decode cX12_runsCode 109 = .ok (.iload 4, 2) := by decide +kernel
theorem dX12_runsCode_111 : decode cX12_runsCode 111 = .ok (.iconst 1, 1) := by decide +kernel
theorem dX12_runsCode_112 : decode cX12_runsCode 112 = .ok (.isub, 1) := by decide +kernel
theorem dX12_runsCode_113 : decode cX12_runsCode 113 = .ok (.iconst 1, 1) := by decide +kernel
theorem dX12_runsCode_114 : decode cX12_runsCode 114 = .ok (.aload_n 0, 1) := by decide +kernel
theorem dX12_runsCode_115 : decode cX12_runsCode 115 = .ok (.getfield 80, 3) := by decide +kernel
theorem dX12_runsCode_118 : decode cX12_runsCode 118 = .ok (.iload 4, 2) := by decide +kernel
theorem dX12_runsCode_120 : decode cX12_runsCode 120 = .ok (.iconst 1, 1) := by decide +kernel
theorem dX12_runsCode_121 : decode cX12_runsCode 121 = .ok (.isub, 1) := by decide +kernel
theorem dX12_runsCode_122 : decode cX12_runsCode 122 = .ok (.iaload, 1) := by decide +kernel
theorem dX12_runsCode_123 : decode cX12_runsCode 123 = .ok (.isub, 1) := by decide +kernel
theorem dX12_runsCode_124 : decode cX12_runsCode 124 = .ok (.iastore, 1) := by decide +kernel
theorem dX12_runsCode_125 : decode cX12_runsCode 125 = .ok (.goto 45, 3) := by decide +kernel
theorem dX12_runsCode_128 : decode cX12_runsCode 128 = .ok (.iload 4, 2) := by decide +kernel
theorem dX12_runsCode_130 : decode cX12_runsCode 130 = .ok (.iconst 1, 1) := by decide +kernel
theorem dX12_runsCode_131 : decode cX12_runsCode 131 = .ok (.isub, 1) := by decide +kernel
theorem dX12_runsCode_132 : decode cX12_runsCode 132 = .ok (.istore 4, 2) := by decide +kernel
theorem dX12_runsCode_134 : decode cX12_runsCode 134 = .ok (.aload_n 0, 1) := by decide +kernel
theorem dX12_runsCode_135 : decode cX12_runsCode 135 = .ok (.getfield 80, 3) := by decide +kernel
theorem dX12_runsCode_138 : decode cX12_runsCode 138 = .ok (.iload 4, 2) := by decide +kernel
theorem dX12_runsCode_140 : decode cX12_runsCode 140 = .ok (.iconst 1, 1) := by decide +kernel
theorem dX12_runsCode_141 : decode cX12_runsCode 141 = .ok (.isub, 1) := by decide +kernel
theorem dX12_runsCode_142 : decode cX12_runsCode 142 = .ok (.aload_n 0, 1) := by decide +kernel
theorem dX12_runsCode_143 : decode cX12_runsCode 143 = .ok (.aload_n 0, 1) := by decide +kernel
theorem dX12_runsCode_144 : decode cX12_runsCode 144 = .ok (.getfield 55, 3) := by decide +kernel
theorem dX12_runsCode_147 : decode cX12_runsCode 147 = .ok (.iload 5, 2) := by decide +kernel
theorem dX12_runsCode_149 : decode cX12_runsCode 149 = .ok (.iaload, 1) := by decide +kernel
theorem dX12_runsCode_150 : decode cX12_runsCode 150 = .ok (.aload_n 0, 1) := by decide +kernel
theorem dX12_runsCode_151 : decode cX12_runsCode 151 = .ok (.getfield 80, 3) := by decide +kernel
theorem dX12_runsCode_154 : decode cX12_runsCode 154 = .ok (.iload 4, 2) := by decide +kernel
theorem dX12_runsCode_156 : decode cX12_runsCode 156 = .ok (.iconst 1, 1) := by decide +kernel
theorem dX12_runsCode_157 : decode cX12_runsCode 157 = .ok (.isub, 1) := by decide +kernel
theorem dX12_runsCode_158 : decode cX12_runsCode 158 = .ok (.iaload, 1) := by decide +kernel
theorem dX12_runsCode_159 : decode cX12_runsCode 159 = .ok (.aload_n 0, 1) := by decide +kernel
theorem dX12_runsCode_160 : decode cX12_runsCode 160 = .ok (.getfield 80, 3) := by decide +kernel
theorem dX12_runsCode_163 : decode cX12_runsCode 163 = .ok (.iload 4, 2) := by decide +kernel
theorem dX12_runsCode_165 : decode cX12_runsCode 165 = .ok (.iaload, 1) := by decide +kernel
theorem dX12_runsCode_166 : decode cX12_runsCode 166 = .ok (.invokevirtual 341, 3) := by decide +kernel
theorem dX12_runsCode_169 : decode cX12_runsCode 169 = .ok (.iastore, 1) := by decide +kernel
theorem dX12_runsCode_170 : decode cX12_runsCode 170 = .ok (.iinc 5 1, 3) := by decide +kernel
theorem dX12_runsCode_173 : decode cX12_runsCode 173 = .ok (.goto (-161), 3) := by decide +kernel
theorem dX12_runsCode_176 : decode cX12_runsCode 176 = .ok (.aload_n 0, 1) := by decide +kernel
theorem dX12_runsCode_177 : decode cX12_runsCode 177 = .ok (.getfield 80, 3) := by decide +kernel
theorem dX12_runsCode_180 : decode cX12_runsCode 180 = .ok (.iconst 0, 1) := by decide +kernel
theorem dX12_runsCode_181 : decode cX12_runsCode 181 = .ok (.iaload, 1) := by decide +kernel
theorem dX12_runsCode_182 : decode cX12_runsCode 182 = .ok (.ireturn, 1) := by decide +kernel
theorem dX12_lineOf_0 : decode cX12_lineOf 0 = .ok (.iconst 0, 1) := by decide +kernel
theorem dX12_lineOf_1 : decode cX12_lineOf 1 = .ok (.istore_n 2, 1) := by decide +kernel
theorem dX12_lineOf_2 : decode cX12_lineOf 2 = .ok (.iload_n 2, 1) := by decide +kernel
theorem dX12_lineOf_3 : decode cX12_lineOf 3 = .ok (.aload_n 0, 1) := by decide +kernel
theorem dX12_lineOf_4 : decode cX12_lineOf 4 = .ok (.getfield 40, 3) := by decide +kernel
theorem dX12_lineOf_7 : decode cX12_lineOf 7 = .ok (.iconst 0, 1) := by decide +kernel
theorem dX12_lineOf_8 : decode cX12_lineOf 8 = .ok (.iaload, 1) := by decide +kernel
theorem dX12_lineOf_9 : decode cX12_lineOf 9 = .ok (.if_icmp .ge 56, 3) := by decide +kernel
theorem dX12_lineOf_12 : decode cX12_lineOf 12 = .ok (.aload_n 0, 1) := by decide +kernel
theorem dX12_lineOf_13 : decode cX12_lineOf 13 = .ok (.getfield 43, 3) := by decide +kernel
theorem dX12_lineOf_16 : decode cX12_lineOf 16 = .ok (.iload_n 2, 1) := by decide +kernel
theorem dX12_lineOf_17 : decode cX12_lineOf 17 = .ok (.iaload, 1) := by decide +kernel
theorem dX12_lineOf_18 : decode cX12_lineOf 18 = .ok (.iload_n 1, 1) := by decide +kernel
theorem dX12_lineOf_19 : decode cX12_lineOf 19 = .ok (.if_icmp .ne 40, 3) := by decide +kernel
theorem dX12_lineOf_22 : decode cX12_lineOf 22 = .ok (.aload_n 0, 1) := by decide +kernel
theorem dX12_lineOf_23 : decode cX12_lineOf 23 = .ok (.getfield 49, 3) := by decide +kernel
theorem dX12_lineOf_26 : decode cX12_lineOf 26 = .ok (.iload_n 2, 1) := by decide +kernel
theorem dX12_lineOf_27 : decode cX12_lineOf 27 = .ok (.iaload, 1) := by decide +kernel
theorem dX12_lineOf_28 : decode cX12_lineOf 28 = .ok (.aload_n 0, 1) := by decide +kernel
theorem dX12_lineOf_29 : decode cX12_lineOf 29 = .ok (.getfield 52, 3) := by decide +kernel
theorem dX12_lineOf_32 : decode cX12_lineOf 32 = .ok (.iload_n 2, 1) := by decide +kernel
theorem dX12_lineOf_33 : decode cX12_lineOf 33 = .ok (.iaload, 1) := by decide +kernel
theorem dX12_lineOf_34 : decode cX12_lineOf 34 = .ok (.if_icmp .eq 23, 3) := by decide +kernel
theorem dX12_lineOf_37 : decode cX12_lineOf 37 = .ok (.aload_n 0, 1) := by decide +kernel
theorem dX12_lineOf_38 : decode cX12_lineOf 38 = .ok (.iconst 0, 1) := by decide +kernel
theorem dX12_lineOf_39 : decode cX12_lineOf 39 = .ok (.aload_n 0, 1) := by decide +kernel
theorem dX12_lineOf_40 : decode cX12_lineOf 40 = .ok (.getfield 49, 3) := by decide +kernel
theorem dX12_lineOf_43 : decode cX12_lineOf 43 = .ok (.iload_n 2, 1) := by decide +kernel
theorem dX12_lineOf_44 : decode cX12_lineOf 44 = .ok (.iaload, 1) := by decide +kernel
theorem dX12_lineOf_45 : decode cX12_lineOf 45 = .ok (.aload_n 0, 1) := by decide +kernel
theorem dX12_lineOf_46 : decode cX12_lineOf 46 = .ok (.getfield 52, 3) := by decide +kernel
theorem dX12_lineOf_49 : decode cX12_lineOf 49 = .ok (.iload_n 2, 1) := by decide +kernel
theorem dX12_lineOf_50 : decode cX12_lineOf 50 = .ok (.iaload, 1) := by decide +kernel
theorem dX12_lineOf_51 : decode cX12_lineOf 51 = .ok (.invokevirtual 344, 3) := by decide +kernel
theorem dX12_lineOf_54 : decode cX12_lineOf 54 = .ok (.ifCond .eq 5, 3) := by decide +kernel
theorem dX12_lineOf_57 : decode cX12_lineOf 57 = .ok (.iload_n 2, 1) := by decide +kernel
theorem dX12_lineOf_58 : decode cX12_lineOf 58 = .ok (.ireturn, 1) := by decide +kernel
theorem dX12_lineOf_59 : decode cX12_lineOf 59 = .ok (.iinc 2 1, 3) := by decide +kernel
theorem dX12_lineOf_62 : decode cX12_lineOf 62 = .ok (.goto (-60), 3) := by decide +kernel
theorem dX12_lineOf_65 : decode cX12_lineOf 65 = .ok (.iconst (-1), 1) := by decide +kernel
theorem dX12_lineOf_66 : decode cX12_lineOf 66 = .ok (.ireturn, 1) := by decide +kernel
theorem dX12_tornSet_0 : decode cX12_tornSet 0 = .ok (.iconst 0, 1) := by decide +kernel
theorem dX12_tornSet_1 : decode cX12_tornSet 1 = .ok (.istore_n 1, 1) := by decide +kernel
theorem dX12_tornSet_2 : decode cX12_tornSet 2 = .ok (.iconst 0, 1) := by decide +kernel
theorem dX12_tornSet_3 : decode cX12_tornSet 3 = .ok (.istore_n 2, 1) := by decide +kernel
theorem dX12_tornSet_4 : decode cX12_tornSet 4 = .ok (.iload_n 2, 1) := by decide +kernel
theorem dX12_tornSet_5 : decode cX12_tornSet 5 = .ok (.aload_n 0, 1) := by decide +kernel
theorem dX12_tornSet_6 : decode cX12_tornSet 6 = .ok (.getfield 156, 3) := by decide +kernel
theorem dX12_tornSet_9 : decode cX12_tornSet 9 = .ok (.if_icmp .ge 23, 3) := by decide +kernel
theorem dX12_tornSet_12 : decode cX12_tornSet 12 = .ok (.aload_n 0, 1) := by decide +kernel
theorem dX12_tornSet_13 : decode cX12_tornSet 13 = .ok (.iload_n 2, 1) := by decide +kernel
theorem dX12_tornSet_14 : decode cX12_tornSet 14 = .ok (.invokevirtual 173, 3) := by decide +kernel
theorem dX12_tornSet_17 : decode cX12_tornSet 17 = .ok (.ifCond .eq 9, 3) := by decide +kernel
theorem dX12_tornSet_20 : decode cX12_tornSet 20 = .ok (.iload_n 1, 1) := by decide +kernel
theorem dX12_tornSet_21 : decode cX12_tornSet 21 = .ok (.iconst 1, 1) := by decide +kernel
theorem dX12_tornSet_22 : decode cX12_tornSet 22 = .ok (.iload_n 2, 1) := by decide +kernel
theorem dX12_tornSet_23 : decode cX12_tornSet 23 = .ok (.ishl, 1) := by decide +kernel
theorem dX12_tornSet_24 : decode cX12_tornSet 24 = .ok (.ior, 1) := by decide +kernel
theorem dX12_tornSet_25 : decode cX12_tornSet 25 = .ok (.istore_n 1, 1) := by decide +kernel
theorem dX12_tornSet_26 : decode cX12_tornSet 26 = .ok (.iinc 2 1, 3) := by decide +kernel
theorem dX12_tornSet_29 : decode cX12_tornSet 29 = .ok (.goto (-25), 3) := by decide +kernel
theorem dX12_tornSet_32 : decode cX12_tornSet 32 = .ok (.iload_n 1, 1) := by decide +kernel
theorem dX12_tornSet_33 : decode cX12_tornSet 33 = .ok (.ireturn, 1) := by decide +kernel
theorem dX12_asks_0 : decode cX12_asks 0 = .ok (.aload_n 0, 1) := by decide +kernel
theorem dX12_asks_1 : decode cX12_asks 1 = .ok (.getfield 77, 3) := by decide +kernel
theorem dX12_asks_4 : decode cX12_asks 4 = .ok (.iconst 0, 1) := by decide +kernel
theorem dX12_asks_5 : decode cX12_asks 5 = .ok (.aload_n 0, 1) := by decide +kernel
theorem dX12_asks_6 : decode cX12_asks 6 = .ok (.getfield 7, 3) := by decide +kernel
theorem dX12_asks_9 : decode cX12_asks 9 = .ok (.bipush 7, 2) := by decide +kernel
theorem dX12_asks_11 : decode cX12_asks 11 = .ok (.iload_n 1, 1) := by decide +kernel
theorem dX12_asks_12 : decode cX12_asks 12 = .ok (.iadd, 1) := by decide +kernel
theorem dX12_asks_13 : decode cX12_asks 13 = .ok (.iaload, 1) := by decide +kernel
theorem dX12_asks_14 : decode cX12_asks 14 = .ok (.iastore, 1) := by decide +kernel
theorem dX12_asks_15 : decode cX12_asks 15 = .ok (.aload_n 0, 1) := by decide +kernel
theorem dX12_asks_16 : decode cX12_asks 16 = .ok (.getfield 77, 3) := by decide +kernel
theorem dX12_asks_19 : decode cX12_asks 19 = .ok (.iconst 1, 1) := by decide +kernel
theorem dX12_asks_20 : decode cX12_asks 20 = .ok (.aload_n 0, 1) := by decide +kernel
theorem dX12_asks_21 : decode cX12_asks 21 = .ok (.getfield 22, 3) := by decide +kernel
theorem dX12_asks_24 : decode cX12_asks 24 = .ok (.iload_n 1, 1) := by decide +kernel
theorem dX12_asks_25 : decode cX12_asks 25 = .ok (.iaload, 1) := by decide +kernel
theorem dX12_asks_26 : decode cX12_asks 26 = .ok (.iastore, 1) := by decide +kernel
theorem dX12_asks_27 : decode cX12_asks 27 = .ok (.aload_n 0, 1) := by decide +kernel
theorem dX12_asks_28 : decode cX12_asks 28 = .ok (.getfield 77, 3) := by decide +kernel
theorem dX12_asks_31 : decode cX12_asks 31 = .ok (.iconst 2, 1) := by decide +kernel
theorem dX12_asks_32 : decode cX12_asks 32 = .ok (.aload_n 0, 1) := by decide +kernel
theorem dX12_asks_33 : decode cX12_asks 33 = .ok (.getfield 19, 3) := by decide +kernel
theorem dX12_asks_36 : decode cX12_asks 36 = .ok (.iload_n 1, 1) := by decide +kernel
theorem dX12_asks_37 : decode cX12_asks 37 = .ok (.iaload, 1) := by decide +kernel
theorem dX12_asks_38 : decode cX12_asks 38 = .ok (.iastore, 1) := by decide +kernel
theorem dX12_asks_39 : decode cX12_asks 39 = .ok (.aload_n 0, 1) := by decide +kernel
theorem dX12_asks_40 : decode cX12_asks 40 = .ok (.getfield 77, 3) := by decide +kernel
theorem dX12_asks_43 : decode cX12_asks 43 = .ok (.iconst 3, 1) := by decide +kernel
theorem dX12_asks_44 : decode cX12_asks 44 = .ok (.aload_n 0, 1) := by decide +kernel
theorem dX12_asks_45 : decode cX12_asks 45 = .ok (.aload_n 0, 1) := by decide +kernel
theorem dX12_asks_46 : decode cX12_asks 46 = .ok (.getfield 74, 3) := by decide +kernel
theorem dX12_asks_49 : decode cX12_asks 49 = .ok (.iload_n 1, 1) := by decide +kernel
theorem dX12_asks_50 : decode cX12_asks 50 = .ok (.iaload, 1) := by decide +kernel
theorem dX12_asks_51 : decode cX12_asks 51 = .ok (.invokevirtual 347, 3) := by decide +kernel
theorem dX12_asks_54 : decode cX12_asks 54 = .ok (.iastore, 1) := by decide +kernel
theorem dX12_asks_55 : decode cX12_asks 55 = .ok (.aload_n 0, 1) := by decide +kernel
theorem dX12_asks_56 : decode cX12_asks 56 = .ok (.getfield 77, 3) := by decide +kernel
theorem dX12_asks_59 : decode cX12_asks 59 = .ok (.iconst 4, 1) := by decide +kernel
theorem dX12_asks_60 : decode cX12_asks 60 = .ok (.aload_n 0, 1) := by decide +kernel
theorem dX12_asks_61 : decode cX12_asks 61 = .ok (.aload_n 0, 1) := by decide +kernel
theorem dX12_asks_62 : decode cX12_asks 62 = .ok (.invokevirtual 350, 3) := by decide +kernel
theorem dX12_asks_65 : decode cX12_asks 65 = .ok (.invokevirtual 347, 3) := by decide +kernel
theorem dX12_asks_68 : decode cX12_asks 68 = .ok (.iastore, 1) := by decide +kernel
theorem dX12_asks_69 : decode cX12_asks 69 = .ok (.aload_n 0, 1) := by decide +kernel
theorem dX12_asks_70 : decode cX12_asks 70 = .ok (.getfield 77, 3) := by decide +kernel
theorem dX12_asks_73 : decode cX12_asks 73 = .ok (.iconst 5, 1) := by decide +kernel
theorem dX12_asks_74 : decode cX12_asks 74 = .ok (.aload_n 0, 1) := by decide +kernel
theorem dX12_asks_75 : decode cX12_asks 75 = .ok (.getfield 7, 3) := by decide +kernel
theorem dX12_asks_78 : decode cX12_asks 78 = .ok (.iconst 3, 1) := by decide +kernel
theorem dX12_asks_79 : decode cX12_asks 79 = .ok (.iaload, 1) := by decide +kernel
theorem dX12_asks_80 : decode cX12_asks 80 = .ok (.iastore, 1) := by decide +kernel
theorem dX12_asks_81 : decode cX12_asks 81 = .ok (.aload_n 0, 1) := by decide +kernel
theorem dX12_asks_82 : decode cX12_asks 82 = .ok (.getfield 77, 3) := by decide +kernel
theorem dX12_asks_85 : decode cX12_asks 85 = .ok (.bipush 6, 2) := by decide +kernel
theorem dX12_asks_87 : decode cX12_asks 87 = .ok (.aload_n 0, 1) := by decide +kernel
theorem dX12_asks_88 : decode cX12_asks 88 = .ok (.getfield 7, 3) := by decide +kernel
theorem dX12_asks_91 : decode cX12_asks 91 = .ok (.iconst 4, 1) := by decide +kernel
theorem dX12_asks_92 : decode cX12_asks 92 = .ok (.iaload, 1) := by decide +kernel
theorem dX12_asks_93 : decode cX12_asks 93 = .ok (.iastore, 1) := by decide +kernel
theorem dX12_asks_94 : decode cX12_asks 94 = .ok (.aload_n 0, 1) := by decide +kernel
theorem dX12_asks_95 : decode cX12_asks 95 = .ok (.getfield 77, 3) := by decide +kernel
theorem dX12_asks_98 : decode cX12_asks 98 = .ok (.bipush 7, 2) := by decide +kernel
theorem dX12_asks_100 : decode cX12_asks 100 = .ok (.aload_n 0, 1) := by decide +kernel
theorem dX12_asks_101 : decode cX12_asks 101 = .ok (.getfield 7, 3) := by decide +kernel
theorem dX12_asks_104 : decode cX12_asks 104 = .ok (.iconst 5, 1) := by decide +kernel
theorem dX12_asks_105 : decode cX12_asks 105 = .ok (.iaload, 1) := by decide +kernel
theorem dX12_asks_106 : decode cX12_asks 106 = .ok (.iastore, 1) := by decide +kernel
theorem dX12_asks_107 : decode cX12_asks 107 = .ok (.aload_n 0, 1) := by decide +kernel
theorem dX12_asks_108 : decode cX12_asks 108 = .ok (.getfield 77, 3) := by decide +kernel
theorem dX12_asks_111 : decode cX12_asks 111 = .ok (.bipush 8, 2) := by decide +kernel
theorem dX12_asks_113 : decode cX12_asks 113 = .ok (.aload_n 0, 1) := by decide +kernel
theorem dX12_asks_114 : decode cX12_asks 114 = .ok (.getfield 7, 3) := by decide +kernel
theorem dX12_asks_117 : decode cX12_asks 117 = .ok (.iconst 0, 1) := by decide +kernel
theorem dX12_asks_118 : decode cX12_asks 118 = .ok (.iaload, 1) := by decide +kernel
theorem dX12_asks_119 : decode cX12_asks 119 = .ok (.iastore, 1) := by decide +kernel
theorem dX12_asks_120 : decode cX12_asks 120 = .ok (.return_, 1) := by decide +kernel
theorem dX12_lawTells_0 : decode cX12_lawTells 0 = .ok (.aload_n 0, 1) := by decide +kernel
theorem dX12_lawTells_1 : decode cX12_lawTells 1 = .ok (.iload_n 1, 1) := by decide +kernel
theorem dX12_lawTells_2 : decode cX12_lawTells 2 = .ok (.invokevirtual 353, 3) := by decide +kernel
theorem dX12_lawTells_5 : decode cX12_lawTells 5 = .ok (.istore 4, 2) := by decide +kernel
theorem dX12_lawTells_7 : decode cX12_lawTells 7 = .ok (.aload_n 0, 1) := by decide +kernel
theorem dX12_lawTells_8 : decode cX12_lawTells 8 = .ok (.iload 4, 2) := by decide +kernel
theorem dX12_lawTells_10 : decode cX12_lawTells 10 = .ok (.iconst (-1), 1) := by decide +kernel
theorem dX12_lawTells_11 : decode cX12_lawTells 11 = .ok (.if_icmp .ne 7, 3) := by decide +kernel
theorem dX12_lawTells_14 : decode cX12_lawTells 14 = .ok (.iload_n 2, 1) := by decide +kernel
theorem dX12_lawTells_15 : decode cX12_lawTells 15 = .ok (.goto 22, 3) := by decide +kernel
theorem dX12_lawTells_18 : decode cX12_lawTells 18 = .ok (.aload_n 0, 1) := by decide +kernel
theorem dX12_lawTells_19 : decode cX12_lawTells 19 = .ok (.iconst 0, 1) := by decide +kernel
theorem dX12_lawTells_20 : decode cX12_lawTells 20 = .ok (.aload_n 0, 1) := by decide +kernel
theorem dX12_lawTells_21 : decode cX12_lawTells 21 = .ok (.getfield 46, 3) := by decide +kernel
theorem dX12_lawTells_24 : decode cX12_lawTells 24 = .ok (.iload 4, 2) := by decide +kernel
theorem dX12_lawTells_26 : decode cX12_lawTells 26 = .ok (.iaload, 1) := by decide +kernel
theorem dX12_lawTells_27 : decode cX12_lawTells 27 = .ok (.aload_n 0, 1) := by decide +kernel
theorem dX12_lawTells_28 : decode cX12_lawTells 28 = .ok (.getfield 49, 3) := by decide +kernel
theorem dX12_lawTells_31 : decode cX12_lawTells 31 = .ok (.iload 4, 2) := by decide +kernel
theorem dX12_lawTells_33 : decode cX12_lawTells 33 = .ok (.iaload, 1) := by decide +kernel
theorem dX12_lawTells_34 : decode cX12_lawTells 34 = .ok (.invokevirtual 344, 3) := by decide +kernel
theorem dX12_lawTells_37 : decode cX12_lawTells 37 = .ok (.iconst 0, 1) := by decide +kernel
theorem dX12_lawTells_38 : decode cX12_lawTells 38 = .ok (.iload_n 3, 1) := by decide +kernel
theorem dX12_lawTells_39 : decode cX12_lawTells 39 = .ok (.invokevirtual 356, 3) := by decide +kernel
theorem dX12_lawTells_42 : decode cX12_lawTells 42 = .ok (.ireturn, 1) := by decide +kernel
theorem dX12_formsOn_0 : decode cX12_formsOn 0 = .ok (.aload_n 0, 1) := by decide +kernel
theorem dX12_formsOn_1 : decode cX12_formsOn 1 = .ok (.iload_n 1, 1) := by decide +kernel
theorem dX12_formsOn_2 : decode cX12_formsOn 2 = .ok (.invokevirtual 359, 3) := by decide +kernel
theorem dX12_formsOn_5 : decode cX12_formsOn 5 = .ok (.aload_n 0, 1) := by decide +kernel
theorem dX12_formsOn_6 : decode cX12_formsOn 6 = .ok (.iconst 0, 1) := by decide +kernel
theorem dX12_formsOn_7 : decode cX12_formsOn 7 = .ok (.aload_n 0, 1) := by decide +kernel
theorem dX12_formsOn_8 : decode cX12_formsOn 8 = .ok (.getfield 77, 3) := by decide +kernel
theorem dX12_formsOn_11 : decode cX12_formsOn 11 = .ok (.iconst 5, 1) := by decide +kernel
theorem dX12_formsOn_12 : decode cX12_formsOn 12 = .ok (.iaload, 1) := by decide +kernel
theorem dX12_formsOn_13 : decode cX12_formsOn 13 = .ok (.bipush 20, 2) := by decide +kernel
theorem dX12_formsOn_15 : decode cX12_formsOn 15 = .ok (.invokevirtual 362, 3) := by decide +kernel
theorem dX12_formsOn_18 : decode cX12_formsOn 18 = .ok (.ireturn, 1) := by decide +kernel
theorem dX12_driesOn_0 : decode cX12_driesOn 0 = .ok (.aload_n 0, 1) := by decide +kernel
theorem dX12_driesOn_1 : decode cX12_driesOn 1 = .ok (.iload_n 1, 1) := by decide +kernel
theorem dX12_driesOn_2 : decode cX12_driesOn 2 = .ok (.invokevirtual 359, 3) := by decide +kernel
theorem dX12_driesOn_5 : decode cX12_driesOn 5 = .ok (.aload_n 0, 1) := by decide +kernel
theorem dX12_driesOn_6 : decode cX12_driesOn 6 = .ok (.iconst 1, 1) := by decide +kernel
theorem dX12_driesOn_7 : decode cX12_driesOn 7 = .ok (.aload_n 0, 1) := by decide +kernel
theorem dX12_driesOn_8 : decode cX12_driesOn 8 = .ok (.getfield 77, 3) := by decide +kernel
theorem dX12_driesOn_11 : decode cX12_driesOn 11 = .ok (.bipush 6, 2) := by decide +kernel
theorem dX12_driesOn_13 : decode cX12_driesOn 13 = .ok (.iaload, 1) := by decide +kernel
theorem dX12_driesOn_14 : decode cX12_driesOn 14 = .ok (.bipush 20, 2) := by decide +kernel
theorem dX12_driesOn_16 : decode cX12_driesOn 16 = .ok (.invokevirtual 362, 3) := by decide +kernel
theorem dX12_driesOn_19 : decode cX12_driesOn 19 = .ok (.ireturn, 1) := by decide +kernel
theorem dX12_tearsOf_0 : decode cX12_tearsOf 0 = .ok (.aload_n 0, 1) := by decide +kernel
theorem dX12_tearsOf_1 : decode cX12_tearsOf 1 = .ok (.iload_n 1, 1) := by decide +kernel
theorem dX12_tearsOf_2 : decode cX12_tearsOf 2 = .ok (.invokevirtual 359, 3) := by decide +kernel
theorem dX12_tearsOf_5 : decode cX12_tearsOf 5 = .ok (.aload_n 0, 1) := by decide +kernel
theorem dX12_tearsOf_6 : decode cX12_tearsOf 6 = .ok (.iconst 2, 1) := by decide +kernel
theorem dX12_tearsOf_7 : decode cX12_tearsOf 7 = .ok (.bipush 100, 2) := by decide +kernel
theorem dX12_tearsOf_9 : decode cX12_tearsOf 9 = .ok (.aload_n 0, 1) := by decide +kernel
theorem dX12_tearsOf_10 : decode cX12_tearsOf 10 = .ok (.getfield 77, 3) := by decide +kernel
theorem dX12_tearsOf_13 : decode cX12_tearsOf 13 = .ok (.bipush 7, 2) := by decide +kernel
theorem dX12_tearsOf_15 : decode cX12_tearsOf 15 = .ok (.iaload, 1) := by decide +kernel
theorem dX12_tearsOf_16 : decode cX12_tearsOf 16 = .ok (.imul, 1) := by decide +kernel
theorem dX12_tearsOf_17 : decode cX12_tearsOf 17 = .ok (.sipush 1000, 3) := by decide +kernel
theorem dX12_tearsOf_20 : decode cX12_tearsOf 20 = .ok (.invokevirtual 362, 3) := by decide +kernel
theorem dX12_tearsOf_23 : decode cX12_tearsOf 23 = .ok (.ireturn, 1) := by decide +kernel
theorem dX12_notes_0 : decode cX12_notes 0 = .ok (.aload_n 0, 1) := by decide +kernel
theorem dX12_notes_1 : decode cX12_notes 1 = .ok (.getfield 150, 3) := by decide +kernel
theorem dX12_notes_4 : decode cX12_notes 4 = .ok (.ifCond .ne 15, 3) := by decide +kernel
theorem dX12_notes_7 : decode cX12_notes 7 = .ok (.aload_n 0, 1) := by decide +kernel
theorem dX12_notes_8 : decode cX12_notes 8 = .ok (.getfield 7, 3) := by decide +kernel
theorem dX12_notes_11 : decode cX12_notes 11 = .ok (.iconst 2, 1) := by decide +kernel
theorem dX12_notes_12 : decode cX12_notes 12 = .ok (.iaload, 1) := by decide +kernel
theorem dX12_notes_13 : decode cX12_notes 13 = .ok (.sipush 150, 3) := by decide +kernel
theorem dX12_notes_16 : decode cX12_notes 16 = .ok (.if_icmp .ne 4, 3) := by decide +kernel
theorem dX12_notes_19 : decode cX12_notes 19 = .ok (.return_, 1) := by decide +kernel
theorem dX12_notes_20 : decode cX12_notes 20 = .ok (.iconst 4, 1) := by decide +kernel
theorem dX12_notes_21 : decode cX12_notes 21 = .ok (.aload_n 0, 1) := by decide +kernel
theorem dX12_notes_22 : decode cX12_notes 22 = .ok (.getfield 7, 3) := by decide +kernel
theorem dX12_notes_25 : decode cX12_notes 25 = .ok (.iconst 2, 1) := by decide +kernel
theorem dX12_notes_26 : decode cX12_notes 26 = .ok (.iaload, 1) := by decide +kernel
theorem dX12_notes_27 : decode cX12_notes 27 = .ok (.imul, 1) := by decide +kernel
theorem dX12_notes_28 : decode cX12_notes 28 = .ok (.istore 4, 2) := by decide +kernel
theorem dX12_notes_30 : decode cX12_notes 30 = .ok (.aload_n 0, 1) := by decide +kernel
theorem dX12_notes_31 : decode cX12_notes 31 = .ok (.getfield 31, 3) := by decide +kernel
theorem dX12_notes_34 : decode cX12_notes 34 = .ok (.iload 4, 2) := by decide +kernel
theorem dX12_notes_36 : decode cX12_notes 36 = .ok (.aload_n 0, 1) := by decide +kernel
theorem dX12_notes_37 : decode cX12_notes 37 = .ok (.getfield 7, 3) := by decide +kernel
theorem dX12_notes_40 : decode cX12_notes 40 = .ok (.iconst 0, 1) := by decide +kernel
theorem dX12_notes_41 : decode cX12_notes 41 = .ok (.iaload, 1) := by decide +kernel
theorem dX12_notes_42 : decode cX12_notes 42 = .ok (.iastore, 1) := by decide +kernel
theorem dX12_notes_43 : decode cX12_notes 43 = .ok (.aload_n 0, 1) := by decide +kernel
theorem dX12_notes_44 : decode cX12_notes 44 = .ok (.getfield 31, 3) := by decide +kernel
theorem dX12_notes_47 : decode cX12_notes 47 = .ok (.iload 4, 2) := by decide +kernel
theorem dX12_notes_49 : decode cX12_notes 49 = .ok (.iconst 1, 1) := by decide +kernel
theorem dX12_notes_50 : decode cX12_notes 50 = .ok (.iadd, 1) := by decide +kernel
theorem dX12_notes_51 : decode cX12_notes 51 = .ok (.iload_n 1, 1) := by decide +kernel
theorem dX12_notes_52 : decode cX12_notes 52 = .ok (.iastore, 1) := by decide +kernel
theorem dX12_notes_53 : decode cX12_notes 53 = .ok (.aload_n 0, 1) := by decide +kernel
theorem dX12_notes_54 : decode cX12_notes 54 = .ok (.getfield 31, 3) := by decide +kernel
theorem dX12_notes_57 : decode cX12_notes 57 = .ok (.iload 4, 2) := by decide +kernel
theorem dX12_notes_59 : decode cX12_notes 59 = .ok (.iconst 2, 1) := by decide +kernel
theorem dX12_notes_60 : decode cX12_notes 60 = .ok (.iadd, 1) := by decide +kernel
theorem dX12_notes_61 : decode cX12_notes 61 = .ok (.iload_n 2, 1) := by decide +kernel
theorem dX12_notes_62 : decode cX12_notes 62 = .ok (.iastore, 1) := by decide +kernel
theorem dX12_notes_63 : decode cX12_notes 63 = .ok (.aload_n 0, 1) := by decide +kernel
theorem dX12_notes_64 : decode cX12_notes 64 = .ok (.getfield 31, 3) := by decide +kernel
theorem dX12_notes_67 : decode cX12_notes 67 = .ok (.iload 4, 2) := by decide +kernel
theorem dX12_notes_69 : decode cX12_notes 69 = .ok (.iconst 3, 1) := by decide +kernel
theorem dX12_notes_70 : decode cX12_notes 70 = .ok (.iadd, 1) := by decide +kernel
theorem dX12_notes_71 : decode cX12_notes 71 = .ok (.iload_n 3, 1) := by decide +kernel
theorem dX12_notes_72 : decode cX12_notes 72 = .ok (.iastore, 1) := by decide +kernel
theorem dX12_notes_73 : decode cX12_notes 73 = .ok (.aload_n 0, 1) := by decide +kernel
theorem dX12_notes_74 : decode cX12_notes 74 = .ok (.getfield 7, 3) := by decide +kernel
theorem dX12_notes_77 : decode cX12_notes 77 = .ok (.iconst 2, 1) := by decide +kernel
theorem dX12_notes_78 : decode cX12_notes 78 = .ok (.aload_n 0, 1) := by decide +kernel
theorem dX12_notes_79 : decode cX12_notes 79 = .ok (.getfield 7, 3) := by decide +kernel
theorem dX12_notes_82 : decode cX12_notes 82 = .ok (.iconst 2, 1) := by decide +kernel
theorem dX12_notes_83 : decode cX12_notes 83 = .ok (.iaload, 1) := by decide +kernel
theorem dX12_notes_84 : decode cX12_notes 84 = .ok (.iconst 1, 1) := by decide +kernel
theorem dX12_notes_85 : decode cX12_notes 85 = .ok (.iadd, 1) := by decide +kernel
theorem dX12_notes_86 : decode cX12_notes 86 = .ok (.iastore, 1) := by decide +kernel
theorem dX12_notes_87 : decode cX12_notes 87 = .ok (.return_, 1) := by decide +kernel
theorem dX12_happens_0 : decode cX12_happens 0 = .ok (.aload_n 0, 1) := by decide +kernel
theorem dX12_happens_1 : decode cX12_happens 1 = .ok (.getfield 150, 3) := by decide +kernel
theorem dX12_happens_4 : decode cX12_happens 4 = .ok (.ifCond .eq 20, 3) := by decide +kernel
theorem dX12_happens_7 : decode cX12_happens 7 = .ok (.iconst 2, 1) := by decide +kernel
theorem dX12_happens_8 : decode cX12_happens 8 = .ok (.iload_n 1, 1) := by decide +kernel
theorem dX12_happens_9 : decode cX12_happens 9 = .ok (.imul, 1) := by decide +kernel
theorem dX12_happens_10 : decode cX12_happens 10 = .ok (.sipush 1000, 3) := by decide +kernel
theorem dX12_happens_13 : decode cX12_happens 13 = .ok (.if_icmp .lt 7, 3) := by decide +kernel
theorem dX12_happens_16 : decode cX12_happens 16 = .ok (.iconst 1, 1) := by decide +kernel
theorem dX12_happens_17 : decode cX12_happens 17 = .ok (.goto 27, 3) := by decide +kernel
theorem dX12_happens_20 : decode cX12_happens 20 = .ok (.iconst 0, 1) := by decide +kernel
theorem dX12_happens_21 : decode cX12_happens 21 = .ok (.goto 23, 3) := by decide +kernel
theorem dX12_happens_24 : decode cX12_happens 24 = .ok (.iload_n 1, 1) := by decide +kernel
theorem dX12_happens_25 : decode cX12_happens 25 = .ok (.ifCond .le 18, 3) := by decide +kernel
theorem dX12_happens_28 : decode cX12_happens 28 = .ok (.aload_n 0, 1) := by decide +kernel
theorem dX12_happens_29 : decode cX12_happens 29 = .ok (.sipush 1000, 3) := by decide +kernel
theorem dX12_happens_32 : decode cX12_happens 32 = .ok (.invokevirtual 365, 3) := by decide +kernel
theorem dX12_happens_35 : decode cX12_happens 35 = .ok (.iload_n 1, 1) := by decide +kernel
theorem dX12_happens_36 : decode cX12_happens 36 = .ok (.if_icmp .ge 7, 3) := by decide +kernel
theorem dX12_happens_39 : decode cX12_happens 39 = .ok (.iconst 1, 1) := by decide +kernel
theorem dX12_happens_40 : decode cX12_happens 40 = .ok (.goto 4, 3) := by decide +kernel
theorem dX12_happens_43 : decode cX12_happens 43 = .ok (.iconst 0, 1) := by decide +kernel
theorem dX12_happens_44 : decode cX12_happens 44 = .ok (.ireturn, 1) := by decide +kernel
theorem dX12_webFor_0 : decode cX12_webFor 0 = .ok (.iconst 0, 1) := by decide +kernel
theorem dX12_webFor_1 : decode cX12_webFor 1 = .ok (.istore_n 2, 1) := by decide +kernel
theorem dX12_webFor_2 : decode cX12_webFor 2 = .ok (.iload_n 2, 1) := by decide +kernel
theorem dX12_webFor_3 : decode cX12_webFor 3 = .ok (.aload_n 0, 1) := by decide +kernel
theorem dX12_webFor_4 : decode cX12_webFor 4 = .ok (.getfield 156, 3) := by decide +kernel
theorem dX12_webFor_7 : decode cX12_webFor 7 = .ok (.if_icmp .ge 41, 3) := by decide +kernel
theorem dX12_webFor_10 : decode cX12_webFor 10 = .ok (.aload_n 0, 1) := by decide +kernel
theorem dX12_webFor_11 : decode cX12_webFor 11 = .ok (.getfield 19, 3) := by decide +kernel
theorem dX12_webFor_14 : decode cX12_webFor 14 = .ok (.iload_n 2, 1) := by decide +kernel
theorem dX12_webFor_15 : decode cX12_webFor 15 = .ok (.iaload, 1) := by decide +kernel
theorem dX12_webFor_16 : decode cX12_webFor 16 = .ok (.iload_n 1, 1) := by decide +kernel
theorem dX12_webFor_17 : decode cX12_webFor 17 = .ok (.if_icmp .ne 25, 3) := by decide +kernel
theorem dX12_webFor_20 : decode cX12_webFor 20 = .ok (.aload_n 0, 1) := by decide +kernel
theorem dX12_webFor_21 : decode cX12_webFor 21 = .ok (.iload_n 2, 1) := by decide +kernel
theorem dX12_webFor_22 : decode cX12_webFor 22 = .ok (.invokevirtual 173, 3) := by decide +kernel
theorem dX12_webFor_25 : decode cX12_webFor 25 = .ok (.ifCond .ne 17, 3) := by decide +kernel
theorem dX12_webFor_28 : decode cX12_webFor 28 = .ok (.aload_n 0, 1) := by decide +kernel
theorem dX12_webFor_29 : decode cX12_webFor 29 = .ok (.getfield 7, 3) := by decide +kernel
theorem dX12_webFor_32 : decode cX12_webFor 32 = .ok (.bipush 7, 2) := by decide +kernel
theorem dX12_webFor_34 : decode cX12_webFor 34 = .ok (.iload_n 2, 1) := by decide +kernel
theorem dX12_webFor_35 : decode cX12_webFor 35 = .ok (.iadd, 1) := by decide +kernel
theorem dX12_webFor_36 : decode cX12_webFor 36 = .ok (.iaload, 1) := by decide +kernel
theorem dX12_webFor_37 : decode cX12_webFor 37 = .ok (.ifCond .le 5, 3) := by decide +kernel
theorem dX12_webFor_40 : decode cX12_webFor 40 = .ok (.iload_n 2, 1) := by decide +kernel
theorem dX12_webFor_41 : decode cX12_webFor 41 = .ok (.ireturn, 1) := by decide +kernel
theorem dX12_webFor_42 : decode cX12_webFor 42 = .ok (.iinc 2 1, 3) := by decide +kernel
theorem dX12_webFor_45 : decode cX12_webFor 45 = .ok (.goto (-43), 3) := by decide +kernel
theorem dX12_webFor_48 : decode cX12_webFor 48 = .ok (.iconst (-1), 1) := by decide +kernel
theorem dX12_webFor_49 : decode cX12_webFor 49 = .ok (.ireturn, 1) := by decide +kernel
theorem dX12_isTornNow_0 : decode cX12_isTornNow 0 = .ok (.aload_n 0, 1) := by decide +kernel
theorem dX12_isTornNow_1 : decode cX12_isTornNow 1 = .ok (.getfield 7, 3) := by decide +kernel
theorem dX12_isTornNow_4 : decode cX12_isTornNow 4 = .ok (.bipush 7, 2) := by decide +kernel
theorem dX12_isTornNow_6 : decode cX12_isTornNow 6 = .ok (.iload_n 1, 1) := by decide +kernel
theorem dX12_isTornNow_7 : decode cX12_isTornNow 7 = .ok (.iadd, 1) := by decide +kernel
theorem dX12_isTornNow_8 : decode cX12_isTornNow 8 = .ok (.iaload, 1) := by decide +kernel
theorem dX12_isTornNow_9 : decode cX12_isTornNow 9 = .ok (.istore_n 2, 1) := by decide +kernel
theorem dX12_isTornNow_10 : decode cX12_isTornNow 10 = .ok (.aload_n 0, 1) := by decide +kernel
theorem dX12_isTornNow_11 : decode cX12_isTornNow 11 = .ok (.iconst 1, 1) := by decide +kernel
theorem dX12_isTornNow_12 : decode cX12_isTornNow 12 = .ok (.iload_n 1, 1) := by decide +kernel
theorem dX12_isTornNow_13 : decode cX12_isTornNow 13 = .ok (.iload_n 2, 1) := by decide +kernel
theorem dX12_isTornNow_14 : decode cX12_isTornNow 14 = .ok (.invokevirtual 368, 3) := by decide +kernel
theorem dX12_isTornNow_17 : decode cX12_isTornNow 17 = .ok (.aload_n 0, 1) := by decide +kernel
theorem dX12_isTornNow_18 : decode cX12_isTornNow 18 = .ok (.getfield 7, 3) := by decide +kernel
theorem dX12_isTornNow_21 : decode cX12_isTornNow 21 = .ok (.bipush 19, 2) := by decide +kernel
theorem dX12_isTornNow_23 : decode cX12_isTornNow 23 = .ok (.iload_n 1, 1) := by decide +kernel
theorem dX12_isTornNow_24 : decode cX12_isTornNow 24 = .ok (.iadd, 1) := by decide +kernel
theorem dX12_isTornNow_25 : decode cX12_isTornNow 25 = .ok (.iconst 1, 1) := by decide +kernel
theorem dX12_isTornNow_26 : decode cX12_isTornNow 26 = .ok (.iastore, 1) := by decide +kernel
theorem dX12_isTornNow_27 : decode cX12_isTornNow 27 = .ok (.aload_n 0, 1) := by decide +kernel
theorem dX12_isTornNow_28 : decode cX12_isTornNow 28 = .ok (.getfield 7, 3) := by decide +kernel
theorem dX12_isTornNow_31 : decode cX12_isTornNow 31 = .ok (.bipush 7, 2) := by decide +kernel
theorem dX12_isTornNow_33 : decode cX12_isTornNow 33 = .ok (.iload_n 1, 1) := by decide +kernel
theorem dX12_isTornNow_34 : decode cX12_isTornNow 34 = .ok (.iadd, 1) := by decide +kernel
theorem dX12_isTornNow_35 : decode cX12_isTornNow 35 = .ok (.iconst 0, 1) := by decide +kernel
theorem dX12_isTornNow_36 : decode cX12_isTornNow 36 = .ok (.iastore, 1) := by decide +kernel
theorem dX12_isTornNow_37 : decode cX12_isTornNow 37 = .ok (.aload_n 0, 1) := by decide +kernel
theorem dX12_isTornNow_38 : decode cX12_isTornNow 38 = .ok (.getfield 74, 3) := by decide +kernel
theorem dX12_isTornNow_41 : decode cX12_isTornNow 41 = .ok (.iload_n 1, 1) := by decide +kernel
theorem dX12_isTornNow_42 : decode cX12_isTornNow 42 = .ok (.iaload, 1) := by decide +kernel
theorem dX12_isTornNow_43 : decode cX12_isTornNow 43 = .ok (.aload_n 0, 1) := by decide +kernel
theorem dX12_isTornNow_44 : decode cX12_isTornNow 44 = .ok (.invokevirtual 350, 3) := by decide +kernel
theorem dX12_isTornNow_47 : decode cX12_isTornNow 47 = .ok (.iconst (-1), 1) := by decide +kernel
theorem dX12_isTornNow_48 : decode cX12_isTornNow 48 = .ok (.ixor, 1) := by decide +kernel
theorem dX12_isTornNow_49 : decode cX12_isTornNow 49 = .ok (.iand, 1) := by decide +kernel
theorem dX12_isTornNow_50 : decode cX12_isTornNow 50 = .ok (.istore_n 3, 1) := by decide +kernel
theorem dX12_isTornNow_51 : decode cX12_isTornNow 51 = .ok (.iload_n 2, 1) := by decide +kernel
theorem dX12_isTornNow_52 : decode cX12_isTornNow 52 = .ok (.istore 4, 2) := by decide +kernel
theorem dX12_isTornNow_54 : decode cX12_isTornNow 54 = .ok (.iconst 0, 1) := by decide +kernel
theorem dX12_isTornNow_55 : decode cX12_isTornNow 55 = .ok (.istore 5, 2) := by decide +kernel
theorem dX12_isTornNow_57 : decode cX12_isTornNow 57 = .ok (.iload 5, 2) := by decide +kernel
theorem dX12_isTornNow_59 : decode cX12_isTornNow 59 = .ok (.aload_n 0, 1) := by decide +kernel
theorem dX12_isTornNow_60 : decode cX12_isTornNow 60 = .ok (.getfield 156, 3) := by decide +kernel
theorem dX12_isTornNow_63 : decode cX12_isTornNow 63 = .ok (.if_icmp .ge 84, 3) := by decide +kernel
theorem dX12_isTornNow_66 : decode cX12_isTornNow 66 = .ok (.aload_n 0, 1) := by decide +kernel
theorem dX12_isTornNow_67 : decode cX12_isTornNow 67 = .ok (.iload_n 3, 1) := by decide +kernel
theorem dX12_isTornNow_68 : decode cX12_isTornNow 68 = .ok (.iload 5, 2) := by decide +kernel
theorem dX12_isTornNow_70 : decode cX12_isTornNow 70 = .ok (.invokevirtual 372, 3) := by decide +kernel
theorem dX12_isTornNow_73 : decode cX12_isTornNow 73 = .ok (.ifCond .ne 6, 3) := by decide +kernel
theorem dX12_isTornNow_76 : decode cX12_isTornNow 76 = .ok (.goto 65, 3) := by decide +kernel
theorem dX12_isTornNow_79 : decode cX12_isTornNow 79 = .ok (.aload_n 0, 1) := by decide +kernel
theorem dX12_isTornNow_80 : decode cX12_isTornNow 80 = .ok (.iload_n 2, 1) := by decide +kernel
theorem dX12_isTornNow_81 : decode cX12_isTornNow 81 = .ok (.iconst 2, 1) := by decide +kernel
theorem dX12_isTornNow_82 : decode cX12_isTornNow 82 = .ok (.idiv, 1) := by decide +kernel
theorem dX12_isTornNow_83 : decode cX12_isTornNow 83 = .ok (.aload_n 0, 1) := by decide +kernel
theorem dX12_isTornNow_84 : decode cX12_isTornNow 84 = .ok (.iload_n 3, 1) := by decide +kernel
theorem dX12_isTornNow_85 : decode cX12_isTornNow 85 = .ok (.invokevirtual 347, 3) := by decide +kernel
theorem dX12_isTornNow_88 : decode cX12_isTornNow 88 = .ok (.idiv, 1) := by decide +kernel
theorem dX12_isTornNow_89 : decode cX12_isTornNow 89 = .ok (.aload_n 0, 1) := by decide +kernel
theorem dX12_isTornNow_90 : decode cX12_isTornNow 90 = .ok (.iload 5, 2) := by decide +kernel
theorem dX12_isTornNow_92 : decode cX12_isTornNow 92 = .ok (.invokevirtual 176, 3) := by decide +kernel
theorem dX12_isTornNow_95 : decode cX12_isTornNow 95 = .ok (.aload_n 0, 1) := by decide +kernel
theorem dX12_isTornNow_96 : decode cX12_isTornNow 96 = .ok (.getfield 7, 3) := by decide +kernel
theorem dX12_isTornNow_99 : decode cX12_isTornNow 99 = .ok (.bipush 7, 2) := by decide +kernel
theorem dX12_isTornNow_101 : decode cX12_isTornNow 101 = .ok (.iload 5, 2) := by decide +kernel
theorem dX12_isTornNow_103 : decode cX12_isTornNow 103 = .ok (.iadd, 1) := by decide +kernel
theorem dX12_isTornNow_104 : decode cX12_isTornNow 104 = .ok (.iaload, 1) := by decide +kernel
theorem dX12_isTornNow_105 : decode cX12_isTornNow 105 = .ok (.isub, 1) := by decide +kernel
theorem dX12_isTornNow_106 : decode cX12_isTornNow 106 = .ok (.invokevirtual 376, 3) := by decide +kernel
theorem dX12_isTornNow_109 : decode cX12_isTornNow 109 = .ok (.istore 6, 2) := by decide +kernel
theorem dX12_isTornNow_111 : decode cX12_isTornNow 111 = .ok (.aload_n 0, 1) := by decide +kernel
theorem dX12_isTornNow_112 : decode cX12_isTornNow 112 = .ok (.getfield 7, 3) := by decide +kernel
theorem dX12_isTornNow_115 : decode cX12_isTornNow 115 = .ok (.bipush 7, 2) := by decide +kernel
theorem dX12_isTornNow_117 : decode cX12_isTornNow 117 = .ok (.iload 5, 2) := by decide +kernel
theorem dX12_isTornNow_119 : decode cX12_isTornNow 119 = .ok (.iadd, 1) := by decide +kernel
theorem dX12_isTornNow_120 : decode cX12_isTornNow 120 = .ok (.aload_n 0, 1) := by decide +kernel
theorem dX12_isTornNow_121 : decode cX12_isTornNow 121 = .ok (.getfield 7, 3) := by decide +kernel
theorem dX12_isTornNow_124 : decode cX12_isTornNow 124 = .ok (.bipush 7, 2) := by decide +kernel
theorem dX12_isTornNow_126 : decode cX12_isTornNow 126 = .ok (.iload 5, 2) := by decide +kernel
theorem dX12_isTornNow_128 : decode cX12_isTornNow 128 = .ok (.iadd, 1) := by decide +kernel
theorem dX12_isTornNow_129 : decode cX12_isTornNow 129 = .ok (.iaload, 1) := by decide +kernel
theorem dX12_isTornNow_130 : decode cX12_isTornNow 130 = .ok (.iload 6, 2) := by decide +kernel
theorem dX12_isTornNow_132 : decode cX12_isTornNow 132 = .ok (.iadd, 1) := by decide +kernel
theorem dX12_isTornNow_133 : decode cX12_isTornNow 133 = .ok (.iastore, 1) := by decide +kernel
theorem dX12_isTornNow_134 : decode cX12_isTornNow 134 = .ok (.iload 4, 2) := by decide +kernel
theorem dX12_isTornNow_136 : decode cX12_isTornNow 136 = .ok (.iload 6, 2) := by decide +kernel
theorem dX12_isTornNow_138 : decode cX12_isTornNow 138 = .ok (.isub, 1) := by decide +kernel
theorem dX12_isTornNow_139 : decode cX12_isTornNow 139 = .ok (.istore 4, 2) := by decide +kernel
theorem dX12_isTornNow_141 : decode cX12_isTornNow 141 = .ok (.iinc 5 1, 3) := by decide +kernel
theorem dX12_isTornNow_144 : decode cX12_isTornNow 144 = .ok (.goto (-87), 3) := by decide +kernel
theorem dX12_isTornNow_147 : decode cX12_isTornNow 147 = .ok (.aload_n 0, 1) := by decide +kernel
theorem dX12_isTornNow_148 : decode cX12_isTornNow 148 = .ok (.getfield 7, 3) := by decide +kernel
theorem dX12_isTornNow_151 : decode cX12_isTornNow 151 = .ok (.bipush 6, 2) := by decide +kernel
theorem dX12_isTornNow_153 : decode cX12_isTornNow 153 = .ok (.aload_n 0, 1) := by decide +kernel
theorem dX12_isTornNow_154 : decode cX12_isTornNow 154 = .ok (.getfield 7, 3) := by decide +kernel
theorem dX12_isTornNow_157 : decode cX12_isTornNow 157 = .ok (.bipush 6, 2) := by decide +kernel
theorem dX12_isTornNow_159 : decode cX12_isTornNow 159 = .ok (.iaload, 1) := by decide +kernel
theorem dX12_isTornNow_160 : decode cX12_isTornNow 160 = .ok (.iload 4, 2) := by decide +kernel
theorem dX12_isTornNow_162 : decode cX12_isTornNow 162 = .ok (.iadd, 1) := by decide +kernel
theorem dX12_isTornNow_163 : decode cX12_isTornNow 163 = .ok (.iastore, 1) := by decide +kernel
theorem dX12_isTornNow_164 : decode cX12_isTornNow 164 = .ok (.return_, 1) := by decide +kernel
theorem dX12_takes_0 : decode cX12_takes 0 = .ok (.aload_n 0, 1) := by decide +kernel
theorem dX12_takes_1 : decode cX12_takes 1 = .ok (.aload_n 0, 1) := by decide +kernel
theorem dX12_takes_2 : decode cX12_takes 2 = .ok (.getfield 7, 3) := by decide +kernel
theorem dX12_takes_5 : decode cX12_takes 5 = .ok (.bipush 31, 2) := by decide +kernel
theorem dX12_takes_7 : decode cX12_takes 7 = .ok (.iload_n 1, 1) := by decide +kernel
theorem dX12_takes_8 : decode cX12_takes 8 = .ok (.iadd, 1) := by decide +kernel
theorem dX12_takes_9 : decode cX12_takes 9 = .ok (.iaload, 1) := by decide +kernel
theorem dX12_takes_10 : decode cX12_takes 10 = .ok (.invokevirtual 379, 3) := by decide +kernel
theorem dX12_takes_13 : decode cX12_takes 13 = .ok (.istore_n 3, 1) := by decide +kernel
theorem dX12_takes_14 : decode cX12_takes 14 = .ok (.iload_n 3, 1) := by decide +kernel
theorem dX12_takes_15 : decode cX12_takes 15 = .ok (.iconst (-1), 1) := by decide +kernel
theorem dX12_takes_16 : decode cX12_takes 16 = .ok (.if_icmp .ne 4, 3) := by decide +kernel
theorem dX12_takes_19 : decode cX12_takes 19 = .ok (.return_, 1) := by decide +kernel
theorem dX12_takes_20 : decode cX12_takes 20 = .ok (.aload_n 0, 1) := by decide +kernel
theorem dX12_takes_21 : decode cX12_takes 21 = .ok (.iload_n 2, 1) := by decide +kernel
theorem dX12_takes_22 : decode cX12_takes 22 = .ok (.aload_n 0, 1) := by decide +kernel
theorem dX12_takes_23 : decode cX12_takes 23 = .ok (.aload_n 0, 1) := by decide +kernel
theorem dX12_takes_24 : decode cX12_takes 24 = .ok (.getfield 7, 3) := by decide +kernel
theorem dX12_takes_27 : decode cX12_takes 27 = .ok (.bipush 7, 2) := by decide +kernel
theorem dX12_takes_29 : decode cX12_takes 29 = .ok (.iload_n 3, 1) := by decide +kernel
theorem dX12_takes_30 : decode cX12_takes 30 = .ok (.iadd, 1) := by decide +kernel
theorem dX12_takes_31 : decode cX12_takes 31 = .ok (.iaload, 1) := by decide +kernel
theorem dX12_takes_32 : decode cX12_takes 32 = .ok (.bipush 40, 2) := by decide +kernel
theorem dX12_takes_34 : decode cX12_takes 34 = .ok (.aload_n 0, 1) := by decide +kernel
theorem dX12_takes_35 : decode cX12_takes 35 = .ok (.getfield 7, 3) := by decide +kernel
theorem dX12_takes_38 : decode cX12_takes 38 = .ok (.bipush 47, 2) := by decide +kernel
theorem dX12_takes_40 : decode cX12_takes 40 = .ok (.iload_n 1, 1) := by decide +kernel
theorem dX12_takes_41 : decode cX12_takes 41 = .ok (.iadd, 1) := by decide +kernel
theorem dX12_takes_42 : decode cX12_takes 42 = .ok (.iaload, 1) := by decide +kernel
theorem dX12_takes_43 : decode cX12_takes 43 = .ok (.isub, 1) := by decide +kernel
theorem dX12_takes_44 : decode cX12_takes 44 = .ok (.invokevirtual 376, 3) := by decide +kernel
theorem dX12_takes_47 : decode cX12_takes 47 = .ok (.invokevirtual 376, 3) := by decide +kernel
theorem dX12_takes_50 : decode cX12_takes 50 = .ok (.istore 4, 2) := by decide +kernel
theorem dX12_takes_52 : decode cX12_takes 52 = .ok (.iload 4, 2) := by decide +kernel
theorem dX12_takes_54 : decode cX12_takes 54 = .ok (.ifCond .ne 4, 3) := by decide +kernel
theorem dX12_takes_57 : decode cX12_takes 57 = .ok (.return_, 1) := by decide +kernel
theorem dX12_takes_58 : decode cX12_takes 58 = .ok (.aload_n 0, 1) := by decide +kernel
theorem dX12_takes_59 : decode cX12_takes 59 = .ok (.getfield 7, 3) := by decide +kernel
theorem dX12_takes_62 : decode cX12_takes 62 = .ok (.bipush 7, 2) := by decide +kernel
theorem dX12_takes_64 : decode cX12_takes 64 = .ok (.iload_n 3, 1) := by decide +kernel
theorem dX12_takes_65 : decode cX12_takes 65 = .ok (.iadd, 1) := by decide +kernel
theorem dX12_takes_66 : decode cX12_takes 66 = .ok (.aload_n 0, 1) := by decide +kernel
theorem dX12_takes_67 : decode cX12_takes 67 = .ok (.getfield 7, 3) := by decide +kernel
theorem dX12_takes_70 : decode cX12_takes 70 = .ok (.bipush 7, 2) := by decide +kernel
theorem dX12_takes_72 : decode cX12_takes 72 = .ok (.iload_n 3, 1) := by decide +kernel
theorem dX12_takes_73 : decode cX12_takes 73 = .ok (.iadd, 1) := by decide +kernel
theorem dX12_takes_74 : decode cX12_takes 74 = .ok (.iaload, 1) := by decide +kernel
theorem dX12_takes_75 : decode cX12_takes 75 = .ok (.iload 4, 2) := by decide +kernel
theorem dX12_takes_77 : decode cX12_takes 77 = .ok (.isub, 1) := by decide +kernel
theorem dX12_takes_78 : decode cX12_takes 78 = .ok (.iastore, 1) := by decide +kernel
theorem dX12_takes_79 : decode cX12_takes 79 = .ok (.aload_n 0, 1) := by decide +kernel
theorem dX12_takes_80 : decode cX12_takes 80 = .ok (.getfield 7, 3) := by decide +kernel
theorem dX12_takes_83 : decode cX12_takes 83 = .ok (.bipush 47, 2) := by decide +kernel
theorem dX12_takes_85 : decode cX12_takes 85 = .ok (.iload_n 1, 1) := by decide +kernel
theorem dX12_takes_86 : decode cX12_takes 86 = .ok (.iadd, 1) := by decide +kernel
theorem dX12_takes_87 : decode cX12_takes 87 = .ok (.aload_n 0, 1) := by decide +kernel
theorem dX12_takes_88 : decode cX12_takes 88 = .ok (.getfield 7, 3) := by decide +kernel
theorem dX12_takes_91 : decode cX12_takes 91 = .ok (.bipush 47, 2) := by decide +kernel
theorem dX12_takes_93 : decode cX12_takes 93 = .ok (.iload_n 1, 1) := by decide +kernel
theorem dX12_takes_94 : decode cX12_takes 94 = .ok (.iadd, 1) := by decide +kernel
theorem dX12_takes_95 : decode cX12_takes 95 = .ok (.iaload, 1) := by decide +kernel
theorem dX12_takes_96 : decode cX12_takes 96 = .ok (.iload 4, 2) := by decide +kernel
theorem dX12_takes_98 : decode cX12_takes 98 = .ok (.iadd, 1) := by decide +kernel
theorem dX12_takes_99 : decode cX12_takes 99 = .ok (.iastore, 1) := by decide +kernel
theorem dX12_takes_100 : decode cX12_takes 100 = .ok (.aload_n 0, 1) := by decide +kernel
theorem dX12_takes_101 : decode cX12_takes 101 = .ok (.iconst 0, 1) := by decide +kernel
theorem dX12_takes_102 : decode cX12_takes 102 = .ok (.iload_n 1, 1) := by decide +kernel
theorem dX12_takes_103 : decode cX12_takes 103 = .ok (.iload 4, 2) := by decide +kernel
theorem dX12_takes_105 : decode cX12_takes 105 = .ok (.invokevirtual 368, 3) := by decide +kernel
theorem dX12_takes_108 : decode cX12_takes 108 = .ok (.aload_n 0, 1) := by decide +kernel
theorem dX12_takes_109 : decode cX12_takes 109 = .ok (.aload_n 0, 1) := by decide +kernel
theorem dX12_takes_110 : decode cX12_takes 110 = .ok (.iload_n 3, 1) := by decide +kernel
theorem dX12_takes_111 : decode cX12_takes 111 = .ok (.invokevirtual 382, 3) := by decide +kernel
theorem dX12_takes_114 : decode cX12_takes 114 = .ok (.invokevirtual 385, 3) := by decide +kernel
theorem dX12_takes_117 : decode cX12_takes 117 = .ok (.ifCond .eq 8, 3) := by decide +kernel
theorem dX12_takes_120 : decode cX12_takes 120 = .ok (.aload_n 0, 1) := by decide +kernel
theorem dX12_takes_121 : decode cX12_takes 121 = .ok (.iload_n 3, 1) := by decide +kernel
theorem dX12_takes_122 : decode cX12_takes 122 = .ok (.invokevirtual 388, 3) := by decide +kernel
theorem dX12_takes_125 : decode cX12_takes 125 = .ok (.return_, 1) := by decide +kernel
theorem dX12_sells_0 : decode cX12_sells 0 = .ok (.aload_n 0, 1) := by decide +kernel
theorem dX12_sells_1 : decode cX12_sells 1 = .ok (.getfield 7, 3) := by decide +kernel
theorem dX12_sells_4 : decode cX12_sells 4 = .ok (.bipush 31, 2) := by decide +kernel
theorem dX12_sells_6 : decode cX12_sells 6 = .ok (.iload_n 1, 1) := by decide +kernel
theorem dX12_sells_7 : decode cX12_sells 7 = .ok (.iadd, 1) := by decide +kernel
theorem dX12_sells_8 : decode cX12_sells 8 = .ok (.iaload, 1) := by decide +kernel
theorem dX12_sells_9 : decode cX12_sells 9 = .ok (.aload_n 0, 1) := by decide +kernel
theorem dX12_sells_10 : decode cX12_sells 10 = .ok (.getfield 25, 3) := by decide +kernel
theorem dX12_sells_13 : decode cX12_sells 13 = .ok (.iload_n 2, 1) := by decide +kernel
theorem dX12_sells_14 : decode cX12_sells 14 = .ok (.iaload, 1) := by decide +kernel
theorem dX12_sells_15 : decode cX12_sells 15 = .ok (.if_icmp .eq 5, 3) := by decide +kernel
theorem dX12_sells_18 : decode cX12_sells 18 = .ok (.iconst 0, 1) := by decide +kernel
theorem dX12_sells_19 : decode cX12_sells 19 = .ok (.ireturn, 1) := by decide +kernel
theorem dX12_sells_20 : decode cX12_sells 20 = .ok (.aload_n 0, 1) := by decide +kernel
theorem dX12_sells_21 : decode cX12_sells 21 = .ok (.iload_n 3, 1) := by decide +kernel
theorem dX12_sells_22 : decode cX12_sells 22 = .ok (.aload_n 0, 1) := by decide +kernel
theorem dX12_sells_23 : decode cX12_sells 23 = .ok (.aload_n 0, 1) := by decide +kernel
theorem dX12_sells_24 : decode cX12_sells 24 = .ok (.getfield 7, 3) := by decide +kernel
theorem dX12_sells_27 : decode cX12_sells 27 = .ok (.bipush 47, 2) := by decide +kernel
theorem dX12_sells_29 : decode cX12_sells 29 = .ok (.iload_n 1, 1) := by decide +kernel
theorem dX12_sells_30 : decode cX12_sells 30 = .ok (.iadd, 1) := by decide +kernel
theorem dX12_sells_31 : decode cX12_sells 31 = .ok (.iaload, 1) := by decide +kernel
theorem dX12_sells_32 : decode cX12_sells 32 = .ok (.aload_n 0, 1) := by decide +kernel
theorem dX12_sells_33 : decode cX12_sells 33 = .ok (.getfield 7, 3) := by decide +kernel
theorem dX12_sells_36 : decode cX12_sells 36 = .ok (.bipush 63, 2) := by decide +kernel
theorem dX12_sells_38 : decode cX12_sells 38 = .ok (.iload_n 2, 1) := by decide +kernel
theorem dX12_sells_39 : decode cX12_sells 39 = .ok (.iadd, 1) := by decide +kernel
theorem dX12_sells_40 : decode cX12_sells 40 = .ok (.iaload, 1) := by decide +kernel
theorem dX12_sells_41 : decode cX12_sells 41 = .ok (.invokevirtual 376, 3) := by decide +kernel
theorem dX12_sells_44 : decode cX12_sells 44 = .ok (.invokevirtual 376, 3) := by decide +kernel
theorem dX12_sells_47 : decode cX12_sells 47 = .ok (.istore 4, 2) := by decide +kernel
theorem dX12_sells_49 : decode cX12_sells 49 = .ok (.iload 4, 2) := by decide +kernel
theorem dX12_sells_51 : decode cX12_sells 51 = .ok (.ifCond .ne 5, 3) := by decide +kernel
theorem dX12_sells_54 : decode cX12_sells 54 = .ok (.iconst 0, 1) := by decide +kernel
theorem dX12_sells_55 : decode cX12_sells 55 = .ok (.ireturn, 1) := by decide +kernel
theorem dX12_sells_56 : decode cX12_sells 56 = .ok (.aload_n 0, 1) := by decide +kernel
theorem dX12_sells_57 : decode cX12_sells 57 = .ok (.getfield 7, 3) := by decide +kernel
theorem dX12_sells_60 : decode cX12_sells 60 = .ok (.bipush 47, 2) := by decide +kernel
theorem dX12_sells_62 : decode cX12_sells 62 = .ok (.iload_n 1, 1) := by decide +kernel
theorem dX12_sells_63 : decode cX12_sells 63 = .ok (.iadd, 1) := by decide +kernel
theorem dX12_sells_64 : decode cX12_sells 64 = .ok (.aload_n 0, 1) := by decide +kernel
theorem dX12_sells_65 : decode cX12_sells 65 = .ok (.getfield 7, 3) := by decide +kernel
theorem dX12_sells_68 : decode cX12_sells 68 = .ok (.bipush 47, 2) := by decide +kernel
theorem dX12_sells_70 : decode cX12_sells 70 = .ok (.iload_n 1, 1) := by decide +kernel
theorem dX12_sells_71 : decode cX12_sells 71 = .ok (.iadd, 1) := by decide +kernel
theorem dX12_sells_72 : decode cX12_sells 72 = .ok (.iaload, 1) := by decide +kernel
theorem dX12_sells_73 : decode cX12_sells 73 = .ok (.iload 4, 2) := by decide +kernel
theorem dX12_sells_75 : decode cX12_sells 75 = .ok (.isub, 1) := by decide +kernel
theorem dX12_sells_76 : decode cX12_sells 76 = .ok (.iastore, 1) := by decide +kernel
theorem dX12_sells_77 : decode cX12_sells 77 = .ok (.aload_n 0, 1) := by decide +kernel
theorem dX12_sells_78 : decode cX12_sells 78 = .ok (.getfield 7, 3) := by decide +kernel
theorem dX12_sells_81 : decode cX12_sells 81 = .ok (.bipush 63, 2) := by decide +kernel
theorem dX12_sells_83 : decode cX12_sells 83 = .ok (.iload_n 2, 1) := by decide +kernel
theorem dX12_sells_84 : decode cX12_sells 84 = .ok (.iadd, 1) := by decide +kernel
theorem dX12_sells_85 : decode cX12_sells 85 = .ok (.aload_n 0, 1) := by decide +kernel
theorem dX12_sells_86 : decode cX12_sells 86 = .ok (.getfield 7, 3) := by decide +kernel
theorem dX12_sells_89 : decode cX12_sells 89 = .ok (.bipush 63, 2) := by decide +kernel
theorem dX12_sells_91 : decode cX12_sells 91 = .ok (.iload_n 2, 1) := by decide +kernel
theorem dX12_sells_92 : decode cX12_sells 92 = .ok (.iadd, 1) := by decide +kernel
theorem dX12_sells_93 : decode cX12_sells 93 = .ok (.iaload, 1) := by decide +kernel
theorem dX12_sells_94 : decode cX12_sells 94 = .ok (.iload 4, 2) := by decide +kernel
theorem dX12_sells_96 : decode cX12_sells 96 = .ok (.isub, 1) := by decide +kernel
theorem dX12_sells_97 : decode cX12_sells 97 = .ok (.iastore, 1) := by decide +kernel
theorem dX12_sells_98 : decode cX12_sells 98 = .ok (.aload_n 0, 1) := by decide +kernel
theorem dX12_sells_99 : decode cX12_sells 99 = .ok (.getfield 7, 3) := by decide +kernel
theorem dX12_sells_102 : decode cX12_sells 102 = .ok (.bipush 83, 2) := by decide +kernel
theorem dX12_sells_104 : decode cX12_sells 104 = .ok (.iload_n 2, 1) := by decide +kernel
theorem dX12_sells_105 : decode cX12_sells 105 = .ok (.iadd, 1) := by decide +kernel
theorem dX12_sells_106 : decode cX12_sells 106 = .ok (.aload_n 0, 1) := by decide +kernel
theorem dX12_sells_107 : decode cX12_sells 107 = .ok (.getfield 7, 3) := by decide +kernel
theorem dX12_sells_110 : decode cX12_sells 110 = .ok (.bipush 83, 2) := by decide +kernel
theorem dX12_sells_112 : decode cX12_sells 112 = .ok (.iload_n 2, 1) := by decide +kernel
theorem dX12_sells_113 : decode cX12_sells 113 = .ok (.iadd, 1) := by decide +kernel
theorem dX12_sells_114 : decode cX12_sells 114 = .ok (.iaload, 1) := by decide +kernel
theorem dX12_sells_115 : decode cX12_sells 115 = .ok (.iload 4, 2) := by decide +kernel
theorem dX12_sells_117 : decode cX12_sells 117 = .ok (.iadd, 1) := by decide +kernel
theorem dX12_sells_118 : decode cX12_sells 118 = .ok (.iastore, 1) := by decide +kernel
theorem dX12_sells_119 : decode cX12_sells 119 = .ok (.aload_n 0, 1) := by decide +kernel
theorem dX12_sells_120 : decode cX12_sells 120 = .ok (.getfield 7, 3) := by decide +kernel
theorem dX12_sells_123 : decode cX12_sells 123 = .ok (.bipush 55, 2) := by decide +kernel
theorem dX12_sells_125 : decode cX12_sells 125 = .ok (.iload_n 1, 1) := by decide +kernel
theorem dX12_sells_126 : decode cX12_sells 126 = .ok (.iadd, 1) := by decide +kernel
theorem dX12_sells_127 : decode cX12_sells 127 = .ok (.aload_n 0, 1) := by decide +kernel
theorem dX12_sells_128 : decode cX12_sells 128 = .ok (.getfield 7, 3) := by decide +kernel
theorem dX12_sells_131 : decode cX12_sells 131 = .ok (.bipush 55, 2) := by decide +kernel
theorem dX12_sells_133 : decode cX12_sells 133 = .ok (.iload_n 1, 1) := by decide +kernel
theorem dX12_sells_134 : decode cX12_sells 134 = .ok (.iadd, 1) := by decide +kernel
theorem dX12_sells_135 : decode cX12_sells 135 = .ok (.iaload, 1) := by decide +kernel
theorem dX12_sells_136 : decode cX12_sells 136 = .ok (.iload 4, 2) := by decide +kernel
theorem dX12_sells_138 : decode cX12_sells 138 = .ok (.aload_n 0, 1) := by decide +kernel
theorem dX12_sells_139 : decode cX12_sells 139 = .ok (.getfield 28, 3) := by decide +kernel
theorem dX12_sells_142 : decode cX12_sells 142 = .ok (.iload_n 2, 1) := by decide +kernel
theorem dX12_sells_143 : decode cX12_sells 143 = .ok (.iaload, 1) := by decide +kernel
theorem dX12_sells_144 : decode cX12_sells 144 = .ok (.imul, 1) := by decide +kernel
theorem dX12_sells_145 : decode cX12_sells 145 = .ok (.iadd, 1) := by decide +kernel
theorem dX12_sells_146 : decode cX12_sells 146 = .ok (.iastore, 1) := by decide +kernel
theorem dX12_sells_147 : decode cX12_sells 147 = .ok (.aload_n 0, 1) := by decide +kernel
theorem dX12_sells_148 : decode cX12_sells 148 = .ok (.iconst 2, 1) := by decide +kernel
theorem dX12_sells_149 : decode cX12_sells 149 = .ok (.iload_n 1, 1) := by decide +kernel
theorem dX12_sells_150 : decode cX12_sells 150 = .ok (.iload 4, 2) := by decide +kernel
theorem dX12_sells_152 : decode cX12_sells 152 = .ok (.invokevirtual 368, 3) := by decide +kernel
theorem dX12_sells_155 : decode cX12_sells 155 = .ok (.iload 4, 2) := by decide +kernel
theorem dX12_sells_157 : decode cX12_sells 157 = .ok (.ireturn, 1) := by decide +kernel
theorem dX12_canAct_0 : decode cX12_canAct 0 = .ok (.iload_n 1, 1) := by decide +kernel
theorem dX12_canAct_1 : decode cX12_canAct 1 = .ok (.iconst 3, 1) := by decide +kernel
theorem dX12_canAct_2 : decode cX12_canAct 2 = .ok (.if_icmp .ne 25, 3) := by decide +kernel
theorem dX12_canAct_5 : decode cX12_canAct 5 = .ok (.aload_n 0, 1) := by decide +kernel
theorem dX12_canAct_6 : decode cX12_canAct 6 = .ok (.iload_n 2, 1) := by decide +kernel
theorem dX12_canAct_7 : decode cX12_canAct 7 = .ok (.invokevirtual 169, 3) := by decide +kernel
theorem dX12_canAct_10 : decode cX12_canAct 10 = .ok (.ifCond .eq 15, 3) := by decide +kernel
theorem dX12_canAct_13 : decode cX12_canAct 13 = .ok (.aload_n 0, 1) := by decide +kernel
theorem dX12_canAct_14 : decode cX12_canAct 14 = .ok (.iload_n 2, 1) := by decide +kernel
theorem dX12_canAct_15 : decode cX12_canAct 15 = .ok (.invokevirtual 173, 3) := by decide +kernel
theorem dX12_canAct_18 : decode cX12_canAct 18 = .ok (.ifCond .eq 7, 3) := by decide +kernel
theorem dX12_canAct_21 : decode cX12_canAct 21 = .ok (.iconst 1, 1) := by decide +kernel
theorem dX12_canAct_22 : decode cX12_canAct 22 = .ok (.goto 4, 3) := by decide +kernel
theorem dX12_canAct_25 : decode cX12_canAct 25 = .ok (.iconst 0, 1) := by decide +kernel
theorem dX12_canAct_26 : decode cX12_canAct 26 = .ok (.ireturn, 1) := by decide +kernel
theorem dX12_canAct_27 : decode cX12_canAct 27 = .ok (.aload_n 0, 1) := by decide +kernel
theorem dX12_canAct_28 : decode cX12_canAct 28 = .ok (.iload_n 2, 1) := by decide +kernel
theorem dX12_canAct_29 : decode cX12_canAct 29 = .ok (.invokevirtual 179, 3) := by decide +kernel
theorem dX12_canAct_32 : decode cX12_canAct 32 = .ok (.ifCond .ne 5, 3) := by decide +kernel
theorem dX12_canAct_35 : decode cX12_canAct 35 = .ok (.iconst 0, 1) := by decide +kernel
theorem dX12_canAct_36 : decode cX12_canAct 36 = .ok (.ireturn, 1) := by decide +kernel
theorem dX12_canAct_37 : decode cX12_canAct 37 = .ok (.iload_n 1, 1) := by decide +kernel
theorem dX12_canAct_38 : decode cX12_canAct 38 = .ok (.ifCond .ne 33, 3) := by decide +kernel
theorem dX12_canAct_41 : decode cX12_canAct 41 = .ok (.aload_n 0, 1) := by decide +kernel
theorem dX12_canAct_42 : decode cX12_canAct 42 = .ok (.iload_n 3, 1) := by decide +kernel
theorem dX12_canAct_43 : decode cX12_canAct 43 = .ok (.iconst 0, 1) := by decide +kernel
theorem dX12_canAct_44 : decode cX12_canAct 44 = .ok (.bipush 19, 2) := by decide +kernel
theorem dX12_canAct_46 : decode cX12_canAct 46 = .ok (.invokevirtual 165, 3) := by decide +kernel
theorem dX12_canAct_49 : decode cX12_canAct 49 = .ok (.ifCond .eq 20, 3) := by decide +kernel
theorem dX12_canAct_52 : decode cX12_canAct 52 = .ok (.aload_n 0, 1) := by decide +kernel
theorem dX12_canAct_53 : decode cX12_canAct 53 = .ok (.getfield 7, 3) := by decide +kernel
theorem dX12_canAct_56 : decode cX12_canAct 56 = .ok (.bipush 39, 2) := by decide +kernel
theorem dX12_canAct_58 : decode cX12_canAct 58 = .ok (.iload_n 2, 1) := by decide +kernel
theorem dX12_canAct_59 : decode cX12_canAct 59 = .ok (.iadd, 1) := by decide +kernel
theorem dX12_canAct_60 : decode cX12_canAct 60 = .ok (.iaload, 1) := by decide +kernel
theorem dX12_canAct_61 : decode cX12_canAct 61 = .ok (.iload_n 3, 1) := by decide +kernel
theorem dX12_canAct_62 : decode cX12_canAct 62 = .ok (.if_icmp .eq 7, 3) := by decide +kernel
theorem dX12_canAct_65 : decode cX12_canAct 65 = .ok (.iconst 1, 1) := by decide +kernel
theorem dX12_canAct_66 : decode cX12_canAct 66 = .ok (.goto 4, 3) := by decide +kernel
theorem dX12_canAct_69 : decode cX12_canAct 69 = .ok (.iconst 0, 1) := by decide +kernel
theorem dX12_canAct_70 : decode cX12_canAct 70 = .ok (.ireturn, 1) := by decide +kernel
theorem dX12_canAct_71 : decode cX12_canAct 71 = .ok (.iload_n 1, 1) := by decide +kernel
theorem dX12_canAct_72 : decode cX12_canAct 72 = .ok (.iconst 1, 1) := by decide +kernel
theorem dX12_canAct_73 : decode cX12_canAct 73 = .ok (.if_icmp .ne 51, 3) := by decide +kernel
theorem dX12_canAct_76 : decode cX12_canAct 76 = .ok (.aload_n 0, 1) := by decide +kernel
theorem dX12_canAct_77 : decode cX12_canAct 77 = .ok (.iload_n 3, 1) := by decide +kernel
theorem dX12_canAct_78 : decode cX12_canAct 78 = .ok (.iconst 1, 1) := by decide +kernel
theorem dX12_canAct_79 : decode cX12_canAct 79 = .ok (.bipush 40, 2) := by decide +kernel
theorem dX12_canAct_81 : decode cX12_canAct 81 = .ok (.invokevirtual 165, 3) := by decide +kernel
theorem dX12_canAct_84 : decode cX12_canAct 84 = .ok (.ifCond .eq 38, 3) := by decide +kernel
theorem dX12_canAct_87 : decode cX12_canAct 87 = .ok (.aload_n 0, 1) := by decide +kernel
theorem dX12_canAct_88 : decode cX12_canAct 88 = .ok (.aload_n 0, 1) := by decide +kernel
theorem dX12_canAct_89 : decode cX12_canAct 89 = .ok (.getfield 7, 3) := by decide +kernel
theorem dX12_canAct_92 : decode cX12_canAct 92 = .ok (.bipush 31, 2) := by decide +kernel
theorem dX12_canAct_94 : decode cX12_canAct 94 = .ok (.iload_n 2, 1) := by decide +kernel
theorem dX12_canAct_95 : decode cX12_canAct 95 = .ok (.iadd, 1) := by decide +kernel
theorem dX12_canAct_96 : decode cX12_canAct 96 = .ok (.iaload, 1) := by decide +kernel
theorem dX12_canAct_97 : decode cX12_canAct 97 = .ok (.invokevirtual 379, 3) := by decide +kernel
theorem dX12_canAct_100 : decode cX12_canAct 100 = .ok (.iconst (-1), 1) := by decide +kernel
theorem dX12_canAct_101 : decode cX12_canAct 101 = .ok (.if_icmp .eq 21, 3) := by decide +kernel
theorem dX12_canAct_104 : decode cX12_canAct 104 = .ok (.aload_n 0, 1) := by decide +kernel
theorem dX12_canAct_105 : decode cX12_canAct 105 = .ok (.getfield 7, 3) := by decide +kernel
theorem dX12_canAct_108 : decode cX12_canAct 108 = .ok (.bipush 47, 2) := by decide +kernel
theorem dX12_canAct_110 : decode cX12_canAct 110 = .ok (.iload_n 2, 1) := by decide +kernel
theorem dX12_canAct_111 : decode cX12_canAct 111 = .ok (.iadd, 1) := by decide +kernel
theorem dX12_canAct_112 : decode cX12_canAct 112 = .ok (.iaload, 1) := by decide +kernel
theorem dX12_canAct_113 : decode cX12_canAct 113 = .ok (.bipush 40, 2) := by decide +kernel
theorem dX12_canAct_115 : decode cX12_canAct 115 = .ok (.if_icmp .ge 7, 3) := by decide +kernel
theorem dX12_canAct_118 : decode cX12_canAct 118 = .ok (.iconst 1, 1) := by decide +kernel
theorem dX12_canAct_119 : decode cX12_canAct 119 = .ok (.goto 4, 3) := by decide +kernel
theorem dX12_canAct_122 : decode cX12_canAct 122 = .ok (.iconst 0, 1) := by decide +kernel
theorem dX12_canAct_123 : decode cX12_canAct 123 = .ok (.ireturn, 1) := by decide +kernel
theorem dX12_canAct_124 : decode cX12_canAct 124 = .ok (.iload_n 1, 1) := by decide +kernel
theorem dX12_canAct_125 : decode cX12_canAct 125 = .ok (.iconst 2, 1) := by decide +kernel
theorem dX12_canAct_126 : decode cX12_canAct 126 = .ok (.if_icmp .ne 57, 3) := by decide +kernel
theorem dX12_canAct_129 : decode cX12_canAct 129 = .ok (.aload_n 0, 1) := by decide +kernel
theorem dX12_canAct_130 : decode cX12_canAct 130 = .ok (.iload_n 3, 1) := by decide +kernel
theorem dX12_canAct_131 : decode cX12_canAct 131 = .ok (.invokevirtual 182, 3) := by decide +kernel
theorem dX12_canAct_134 : decode cX12_canAct 134 = .ok (.ifCond .eq 49, 3) := by decide +kernel
theorem dX12_canAct_137 : decode cX12_canAct 137 = .ok (.aload_n 0, 1) := by decide +kernel
theorem dX12_canAct_138 : decode cX12_canAct 138 = .ok (.getfield 7, 3) := by decide +kernel
theorem dX12_canAct_141 : decode cX12_canAct 141 = .ok (.bipush 31, 2) := by decide +kernel
theorem dX12_canAct_143 : decode cX12_canAct 143 = .ok (.iload_n 2, 1) := by decide +kernel
theorem dX12_canAct_144 : decode cX12_canAct 144 = .ok (.iadd, 1) := by decide +kernel
theorem dX12_canAct_145 : decode cX12_canAct 145 = .ok (.iaload, 1) := by decide +kernel
theorem dX12_canAct_146 : decode cX12_canAct 146 = .ok (.aload_n 0, 1) := by decide +kernel
theorem dX12_canAct_147 : decode cX12_canAct 147 = .ok (.getfield 25, 3) := by decide +kernel
theorem dX12_canAct_150 : decode cX12_canAct 150 = .ok (.iload_n 3, 1) := by decide +kernel
theorem dX12_canAct_151 : decode cX12_canAct 151 = .ok (.iaload, 1) := by decide +kernel
theorem dX12_canAct_152 : decode cX12_canAct 152 = .ok (.if_icmp .ne 31, 3) := by decide +kernel
theorem dX12_canAct_155 : decode cX12_canAct 155 = .ok (.aload_n 0, 1) := by decide +kernel
theorem dX12_canAct_156 : decode cX12_canAct 156 = .ok (.getfield 7, 3) := by decide +kernel
theorem dX12_canAct_159 : decode cX12_canAct 159 = .ok (.bipush 47, 2) := by decide +kernel
theorem dX12_canAct_161 : decode cX12_canAct 161 = .ok (.iload_n 2, 1) := by decide +kernel
theorem dX12_canAct_162 : decode cX12_canAct 162 = .ok (.iadd, 1) := by decide +kernel
theorem dX12_canAct_163 : decode cX12_canAct 163 = .ok (.iaload, 1) := by decide +kernel
theorem dX12_canAct_164 : decode cX12_canAct 164 = .ok (.ifCond .le 19, 3) := by decide +kernel
theorem dX12_canAct_167 : decode cX12_canAct 167 = .ok (.aload_n 0, 1) := by decide +kernel
theorem dX12_canAct_168 : decode cX12_canAct 168 = .ok (.getfield 7, 3) := by decide +kernel
theorem dX12_canAct_171 : decode cX12_canAct 171 = .ok (.bipush 63, 2) := by decide +kernel
theorem dX12_canAct_173 : decode cX12_canAct 173 = .ok (.iload_n 3, 1) := by decide +kernel
theorem dX12_canAct_174 : decode cX12_canAct 174 = .ok (.iadd, 1) := by decide +kernel
theorem dX12_canAct_175 : decode cX12_canAct 175 = .ok (.iaload, 1) := by decide +kernel
theorem dX12_canAct_176 : decode cX12_canAct 176 = .ok (.ifCond .le 7, 3) := by decide +kernel
theorem dX12_canAct_179 : decode cX12_canAct 179 = .ok (.iconst 1, 1) := by decide +kernel
theorem dX12_canAct_180 : decode cX12_canAct 180 = .ok (.goto 4, 3) := by decide +kernel
theorem dX12_canAct_183 : decode cX12_canAct 183 = .ok (.iconst 0, 1) := by decide +kernel
theorem dX12_canAct_184 : decode cX12_canAct 184 = .ok (.ireturn, 1) := by decide +kernel
theorem dX12_act_0 : decode cX12_act 0 = .ok (.aload_n 0, 1) := by decide +kernel
theorem dX12_act_1 : decode cX12_act 1 = .ok (.iconst 0, 1) := by decide +kernel
theorem dX12_act_2 : decode cX12_act 2 = .ok (.putfield 140, 3) := by decide +kernel
theorem dX12_act_5 : decode cX12_act 5 = .ok (.aload_n 0, 1) := by decide +kernel
theorem dX12_act_6 : decode cX12_act 6 = .ok (.iload_n 1, 1) := by decide +kernel
theorem dX12_act_7 : decode cX12_act 7 = .ok (.iload_n 2, 1) := by decide +kernel
theorem dX12_act_8 : decode cX12_act 8 = .ok (.iload_n 3, 1) := by decide +kernel
theorem dX12_act_9 : decode cX12_act 9 = .ok (.invokevirtual 391, 3) := by decide +kernel
theorem dX12_act_12 : decode cX12_act 12 = .ok (.ifCond .ne 5, 3) := by decide +kernel
theorem dX12_act_15 : decode cX12_act 15 = .ok (.iconst 0, 1) := by decide +kernel
theorem dX12_act_16 : decode cX12_act 16 = .ok (.ireturn, 1) := by decide +kernel
theorem dX12_act_17 : decode cX12_act 17 = .ok (.aload_n 0, 1) := by decide +kernel
theorem dX12_act_18 : decode cX12_act 18 = .ok (.invokevirtual 394, 3) := by decide +kernel
theorem dX12_act_21 : decode cX12_act 21 = .ok (.iload_n 1, 1) := by decide +kernel
theorem dX12_act_22 : decode cX12_act 22 = .ok (.ifCond .ne 13, 3) := by decide +kernel
theorem dX12_act_25 : decode cX12_act 25 = .ok (.aload_n 0, 1) := by decide +kernel
theorem dX12_act_26 : decode cX12_act 26 = .ok (.getfield 7, 3) := by decide +kernel
theorem dX12_act_29 : decode cX12_act 29 = .ok (.bipush 39, 2) := by decide +kernel
theorem dX12_act_31 : decode cX12_act 31 = .ok (.iload_n 2, 1) := by decide +kernel
theorem dX12_act_32 : decode cX12_act 32 = .ok (.iadd, 1) := by decide +kernel
theorem dX12_act_33 : decode cX12_act 33 = .ok (.iload_n 3, 1) := by decide +kernel
theorem dX12_act_34 : decode cX12_act 34 = .ok (.iastore, 1) := by decide +kernel
theorem dX12_act_35 : decode cX12_act 35 = .ok (.iload_n 1, 1) := by decide +kernel
theorem dX12_act_36 : decode cX12_act 36 = .ok (.iconst 1, 1) := by decide +kernel
theorem dX12_act_37 : decode cX12_act 37 = .ok (.if_icmp .ne 9, 3) := by decide +kernel
theorem dX12_act_40 : decode cX12_act 40 = .ok (.aload_n 0, 1) := by decide +kernel
theorem dX12_act_41 : decode cX12_act 41 = .ok (.iload_n 2, 1) := by decide +kernel
theorem dX12_act_42 : decode cX12_act 42 = .ok (.iload_n 3, 1) := by decide +kernel
theorem dX12_act_43 : decode cX12_act 43 = .ok (.invokevirtual 397, 3) := by decide +kernel
theorem dX12_act_46 : decode cX12_act 46 = .ok (.iload_n 1, 1) := by decide +kernel
theorem dX12_act_47 : decode cX12_act 47 = .ok (.iconst 2, 1) := by decide +kernel
theorem dX12_act_48 : decode cX12_act 48 = .ok (.if_icmp .ne 12, 3) := by decide +kernel
theorem dX12_act_51 : decode cX12_act 51 = .ok (.aload_n 0, 1) := by decide +kernel
theorem dX12_act_52 : decode cX12_act 52 = .ok (.iload_n 2, 1) := by decide +kernel
theorem dX12_act_53 : decode cX12_act 53 = .ok (.iload_n 3, 1) := by decide +kernel
theorem dX12_act_54 : decode cX12_act 54 = .ok (.bipush 99, 2) := by decide +kernel
theorem dX12_act_56 : decode cX12_act 56 = .ok (.invokevirtual 400, 3) := by decide +kernel
theorem dX12_act_59 : decode cX12_act 59 = .ok (.pop, 1) := by decide +kernel
theorem dX12_act_60 : decode cX12_act 60 = .ok (.iload_n 1, 1) := by decide +kernel
theorem dX12_act_61 : decode cX12_act 61 = .ok (.iconst 3, 1) := by decide +kernel
theorem dX12_act_62 : decode cX12_act 62 = .ok (.if_icmp .ne 13, 3) := by decide +kernel
theorem dX12_act_65 : decode cX12_act 65 = .ok (.aload_n 0, 1) := by decide +kernel
theorem dX12_act_66 : decode cX12_act 66 = .ok (.getfield 7, 3) := by decide +kernel
theorem dX12_act_69 : decode cX12_act 69 = .ok (.bipush 19, 2) := by decide +kernel
theorem dX12_act_71 : decode cX12_act 71 = .ok (.iload_n 2, 1) := by decide +kernel
theorem dX12_act_72 : decode cX12_act 72 = .ok (.iadd, 1) := by decide +kernel
theorem dX12_act_73 : decode cX12_act 73 = .ok (.iconst 0, 1) := by decide +kernel
theorem dX12_act_74 : decode cX12_act 74 = .ok (.iastore, 1) := by decide +kernel
theorem dX12_act_75 : decode cX12_act 75 = .ok (.iconst 1, 1) := by decide +kernel
theorem dX12_act_76 : decode cX12_act 76 = .ok (.ireturn, 1) := by decide +kernel
theorem dX12_dews_0 : decode cX12_dews 0 = .ok (.aload_n 0, 1) := by decide +kernel
theorem dX12_dews_1 : decode cX12_dews 1 = .ok (.getfield 7, 3) := by decide +kernel
theorem dX12_dews_4 : decode cX12_dews 4 = .ok (.bipush 7, 2) := by decide +kernel
theorem dX12_dews_6 : decode cX12_dews 6 = .ok (.iload_n 1, 1) := by decide +kernel
theorem dX12_dews_7 : decode cX12_dews 7 = .ok (.iadd, 1) := by decide +kernel
theorem dX12_dews_8 : decode cX12_dews 8 = .ok (.aload_n 0, 1) := by decide +kernel
theorem dX12_dews_9 : decode cX12_dews 9 = .ok (.aload_n 0, 1) := by decide +kernel
theorem dX12_dews_10 : decode cX12_dews 10 = .ok (.iload_n 1, 1) := by decide +kernel
theorem dX12_dews_11 : decode cX12_dews 11 = .ok (.invokevirtual 176, 3) := by decide +kernel
theorem dX12_dews_14 : decode cX12_dews 14 = .ok (.aload_n 0, 1) := by decide +kernel
theorem dX12_dews_15 : decode cX12_dews 15 = .ok (.getfield 7, 3) := by decide +kernel
theorem dX12_dews_18 : decode cX12_dews 18 = .ok (.bipush 7, 2) := by decide +kernel
theorem dX12_dews_20 : decode cX12_dews 20 = .ok (.iload_n 1, 1) := by decide +kernel
theorem dX12_dews_21 : decode cX12_dews 21 = .ok (.iadd, 1) := by decide +kernel
theorem dX12_dews_22 : decode cX12_dews 22 = .ok (.iaload, 1) := by decide +kernel
theorem dX12_dews_23 : decode cX12_dews 23 = .ok (.aload_n 0, 1) := by decide +kernel
theorem dX12_dews_24 : decode cX12_dews 24 = .ok (.iload_n 1, 1) := by decide +kernel
theorem dX12_dews_25 : decode cX12_dews 25 = .ok (.invokevirtual 403, 3) := by decide +kernel
theorem dX12_dews_28 : decode cX12_dews 28 = .ok (.iadd, 1) := by decide +kernel
theorem dX12_dews_29 : decode cX12_dews 29 = .ok (.invokevirtual 376, 3) := by decide +kernel
theorem dX12_dews_32 : decode cX12_dews 32 = .ok (.iastore, 1) := by decide +kernel
theorem dX12_dews_33 : decode cX12_dews 33 = .ok (.aload_n 0, 1) := by decide +kernel
theorem dX12_dews_34 : decode cX12_dews 34 = .ok (.aload_n 0, 1) := by decide +kernel
theorem dX12_dews_35 : decode cX12_dews 35 = .ok (.getfield 7, 3) := by decide +kernel
theorem dX12_dews_38 : decode cX12_dews 38 = .ok (.bipush 7, 2) := by decide +kernel
theorem dX12_dews_40 : decode cX12_dews 40 = .ok (.iload_n 1, 1) := by decide +kernel
theorem dX12_dews_41 : decode cX12_dews 41 = .ok (.iadd, 1) := by decide +kernel
theorem dX12_dews_42 : decode cX12_dews 42 = .ok (.iaload, 1) := by decide +kernel
theorem dX12_dews_43 : decode cX12_dews 43 = .ok (.aload_n 0, 1) := by decide +kernel
theorem dX12_dews_44 : decode cX12_dews 44 = .ok (.iload_n 1, 1) := by decide +kernel
theorem dX12_dews_45 : decode cX12_dews 45 = .ok (.invokevirtual 406, 3) := by decide +kernel
theorem dX12_dews_48 : decode cX12_dews 48 = .ok (.invokevirtual 376, 3) := by decide +kernel
theorem dX12_dews_51 : decode cX12_dews 51 = .ok (.istore_n 2, 1) := by decide +kernel
theorem dX12_dews_52 : decode cX12_dews 52 = .ok (.aload_n 0, 1) := by decide +kernel
theorem dX12_dews_53 : decode cX12_dews 53 = .ok (.getfield 7, 3) := by decide +kernel
theorem dX12_dews_56 : decode cX12_dews 56 = .ok (.bipush 7, 2) := by decide +kernel
theorem dX12_dews_58 : decode cX12_dews 58 = .ok (.iload_n 1, 1) := by decide +kernel
theorem dX12_dews_59 : decode cX12_dews 59 = .ok (.iadd, 1) := by decide +kernel
theorem dX12_dews_60 : decode cX12_dews 60 = .ok (.aload_n 0, 1) := by decide +kernel
theorem dX12_dews_61 : decode cX12_dews 61 = .ok (.getfield 7, 3) := by decide +kernel
theorem dX12_dews_64 : decode cX12_dews 64 = .ok (.bipush 7, 2) := by decide +kernel
theorem dX12_dews_66 : decode cX12_dews 66 = .ok (.iload_n 1, 1) := by decide +kernel
theorem dX12_dews_67 : decode cX12_dews 67 = .ok (.iadd, 1) := by decide +kernel
theorem dX12_dews_68 : decode cX12_dews 68 = .ok (.iaload, 1) := by decide +kernel
theorem dX12_dews_69 : decode cX12_dews 69 = .ok (.iload_n 2, 1) := by decide +kernel
theorem dX12_dews_70 : decode cX12_dews 70 = .ok (.isub, 1) := by decide +kernel
theorem dX12_dews_71 : decode cX12_dews 71 = .ok (.iastore, 1) := by decide +kernel
theorem dX12_dews_72 : decode cX12_dews 72 = .ok (.aload_n 0, 1) := by decide +kernel
theorem dX12_dews_73 : decode cX12_dews 73 = .ok (.getfield 7, 3) := by decide +kernel
theorem dX12_dews_76 : decode cX12_dews 76 = .ok (.bipush 6, 2) := by decide +kernel
theorem dX12_dews_78 : decode cX12_dews 78 = .ok (.aload_n 0, 1) := by decide +kernel
theorem dX12_dews_79 : decode cX12_dews 79 = .ok (.getfield 7, 3) := by decide +kernel
theorem dX12_dews_82 : decode cX12_dews 82 = .ok (.bipush 6, 2) := by decide +kernel
theorem dX12_dews_84 : decode cX12_dews 84 = .ok (.iaload, 1) := by decide +kernel
theorem dX12_dews_85 : decode cX12_dews 85 = .ok (.iload_n 2, 1) := by decide +kernel
theorem dX12_dews_86 : decode cX12_dews 86 = .ok (.iadd, 1) := by decide +kernel
theorem dX12_dews_87 : decode cX12_dews 87 = .ok (.iastore, 1) := by decide +kernel
theorem dX12_dews_88 : decode cX12_dews 88 = .ok (.return_, 1) := by decide +kernel
theorem dX12_does_0 : decode cX12_does 0 = .ok (.aload_n 0, 1) := by decide +kernel
theorem dX12_does_1 : decode cX12_does 1 = .ok (.getfield 68, 3) := by decide +kernel
theorem dX12_does_4 : decode cX12_does 4 = .ok (.iload_n 1, 1) := by decide +kernel
theorem dX12_does_5 : decode cX12_does 5 = .ok (.iconst 1, 1) := by decide +kernel
theorem dX12_does_6 : decode cX12_does 6 = .ok (.iadd, 1) := by decide +kernel
theorem dX12_does_7 : decode cX12_does 7 = .ok (.iaload, 1) := by decide +kernel
theorem dX12_does_8 : decode cX12_does 8 = .ok (.istore_n 2, 1) := by decide +kernel
theorem dX12_does_9 : decode cX12_does 9 = .ok (.aload_n 0, 1) := by decide +kernel
theorem dX12_does_10 : decode cX12_does 10 = .ok (.getfield 68, 3) := by decide +kernel
theorem dX12_does_13 : decode cX12_does 13 = .ok (.iload_n 1, 1) := by decide +kernel
theorem dX12_does_14 : decode cX12_does 14 = .ok (.iconst 2, 1) := by decide +kernel
theorem dX12_does_15 : decode cX12_does 15 = .ok (.iadd, 1) := by decide +kernel
theorem dX12_does_16 : decode cX12_does 16 = .ok (.iaload, 1) := by decide +kernel
theorem dX12_does_17 : decode cX12_does 17 = .ok (.istore_n 3, 1) := by decide +kernel
theorem dX12_does_18 : decode cX12_does 18 = .ok (.iload_n 3, 1) := by decide +kernel
theorem dX12_does_19 : decode cX12_does 19 = .ok (.ifCond .ne 20, 3) := by decide +kernel
theorem dX12_does_22 : decode cX12_does 22 = .ok (.aload_n 0, 1) := by decide +kernel
theorem dX12_does_23 : decode cX12_does 23 = .ok (.getfield 7, 3) := by decide +kernel
theorem dX12_does_26 : decode cX12_does 26 = .ok (.bipush 39, 2) := by decide +kernel
theorem dX12_does_28 : decode cX12_does 28 = .ok (.iload_n 2, 1) := by decide +kernel
theorem dX12_does_29 : decode cX12_does 29 = .ok (.iadd, 1) := by decide +kernel
theorem dX12_does_30 : decode cX12_does 30 = .ok (.aload_n 0, 1) := by decide +kernel
theorem dX12_does_31 : decode cX12_does 31 = .ok (.getfield 68, 3) := by decide +kernel
theorem dX12_does_34 : decode cX12_does 34 = .ok (.iload_n 1, 1) := by decide +kernel
theorem dX12_does_35 : decode cX12_does 35 = .ok (.iconst 3, 1) := by decide +kernel
theorem dX12_does_36 : decode cX12_does 36 = .ok (.iadd, 1) := by decide +kernel
theorem dX12_does_37 : decode cX12_does 37 = .ok (.iaload, 1) := by decide +kernel
theorem dX12_does_38 : decode cX12_does 38 = .ok (.iastore, 1) := by decide +kernel
theorem dX12_does_39 : decode cX12_does 39 = .ok (.iload_n 3, 1) := by decide +kernel
theorem dX12_does_40 : decode cX12_does 40 = .ok (.iconst 1, 1) := by decide +kernel
theorem dX12_does_41 : decode cX12_does 41 = .ok (.if_icmp .ne 16, 3) := by decide +kernel
theorem dX12_does_44 : decode cX12_does 44 = .ok (.aload_n 0, 1) := by decide +kernel
theorem dX12_does_45 : decode cX12_does 45 = .ok (.iload_n 2, 1) := by decide +kernel
theorem dX12_does_46 : decode cX12_does 46 = .ok (.aload_n 0, 1) := by decide +kernel
theorem dX12_does_47 : decode cX12_does 47 = .ok (.getfield 68, 3) := by decide +kernel
theorem dX12_does_50 : decode cX12_does 50 = .ok (.iload_n 1, 1) := by decide +kernel
theorem dX12_does_51 : decode cX12_does 51 = .ok (.iconst 3, 1) := by decide +kernel
theorem dX12_does_52 : decode cX12_does 52 = .ok (.iadd, 1) := by decide +kernel
theorem dX12_does_53 : decode cX12_does 53 = .ok (.iaload, 1) := by decide +kernel
theorem dX12_does_54 : decode cX12_does 54 = .ok (.invokevirtual 397, 3) := by decide +kernel
theorem dX12_does_57 : decode cX12_does 57 = .ok (.iload_n 3, 1) := by decide +kernel
theorem dX12_does_58 : decode cX12_does 58 = .ok (.iconst 2, 1) := by decide +kernel
theorem dX12_does_59 : decode cX12_does 59 = .ok (.if_icmp .ne 27, 3) := by decide +kernel
theorem dX12_does_62 : decode cX12_does 62 = .ok (.aload_n 0, 1) := by decide +kernel
theorem dX12_does_63 : decode cX12_does 63 = .ok (.iload_n 2, 1) := by decide +kernel
theorem dX12_does_64 : decode cX12_does 64 = .ok (.aload_n 0, 1) := by decide +kernel
theorem dX12_does_65 : decode cX12_does 65 = .ok (.getfield 68, 3) := by decide +kernel
theorem dX12_does_68 : decode cX12_does 68 = .ok (.iload_n 1, 1) := by decide +kernel
theorem dX12_does_69 : decode cX12_does 69 = .ok (.iconst 3, 1) := by decide +kernel
theorem dX12_does_70 : decode cX12_does 70 = .ok (.iadd, 1) := by decide +kernel
theorem dX12_does_71 : decode cX12_does 71 = .ok (.iaload, 1) := by decide +kernel
theorem dX12_does_72 : decode cX12_does 72 = .ok (.aload_n 0, 1) := by decide +kernel
theorem dX12_does_73 : decode cX12_does 73 = .ok (.getfield 68, 3) := by decide +kernel
theorem dX12_does_76 : decode cX12_does 76 = .ok (.iload_n 1, 1) := by decide +kernel
theorem dX12_does_77 : decode cX12_does 77 = .ok (.iconst 4, 1) := by decide +kernel
theorem dX12_does_78 : decode cX12_does 78 = .ok (.iadd, 1) := by decide +kernel
theorem dX12_does_79 : decode cX12_does 79 = .ok (.iaload, 1) := by decide +kernel
theorem dX12_does_80 : decode cX12_does 80 = .ok (.invokevirtual 400, 3) := by decide +kernel
theorem dX12_does_83 : decode cX12_does 83 = .ok (.goto 4, 3) := by decide +kernel
theorem dX12_does_86 : decode cX12_does 86 = .ok (.iconst 0, 1) := by decide +kernel
theorem dX12_does_87 : decode cX12_does 87 = .ok (.ireturn, 1) := by decide +kernel
theorem dX12_goesBy_0 : decode cX12_goesBy 0 = .ok (.iconst 0, 1) := by decide +kernel
theorem dX12_goesBy_1 : decode cX12_goesBy 1 = .ok (.istore_n 1, 1) := by decide +kernel
theorem dX12_goesBy_2 : decode cX12_goesBy 2 = .ok (.iload_n 1, 1) := by decide +kernel
theorem dX12_goesBy_3 : decode cX12_goesBy 3 = .ok (.iconst 3, 1) := by decide +kernel
theorem dX12_goesBy_4 : decode cX12_goesBy 4 = .ok (.aload_n 0, 1) := by decide +kernel
theorem dX12_goesBy_5 : decode cX12_goesBy 5 = .ok (.getfield 326, 3) := by decide +kernel
theorem dX12_goesBy_8 : decode cX12_goesBy 8 = .ok (.imul, 1) := by decide +kernel
theorem dX12_goesBy_9 : decode cX12_goesBy 9 = .ok (.if_icmp .ge 83, 3) := by decide +kernel
theorem dX12_goesBy_12 : decode cX12_goesBy 12 = .ok (.aload_n 0, 1) := by decide +kernel
theorem dX12_goesBy_13 : decode cX12_goesBy 13 = .ok (.getfield 71, 3) := by decide +kernel
theorem dX12_goesBy_16 : decode cX12_goesBy 16 = .ok (.iload_n 1, 1) := by decide +kernel
theorem dX12_goesBy_17 : decode cX12_goesBy 17 = .ok (.iaload, 1) := by decide +kernel
theorem dX12_goesBy_18 : decode cX12_goesBy 18 = .ok (.aload_n 0, 1) := by decide +kernel
theorem dX12_goesBy_19 : decode cX12_goesBy 19 = .ok (.getfield 7, 3) := by decide +kernel
theorem dX12_goesBy_22 : decode cX12_goesBy 22 = .ok (.iconst 0, 1) := by decide +kernel
theorem dX12_goesBy_23 : decode cX12_goesBy 23 = .ok (.iaload, 1) := by decide +kernel
theorem dX12_goesBy_24 : decode cX12_goesBy 24 = .ok (.if_icmp .eq 6, 3) := by decide +kernel
theorem dX12_goesBy_27 : decode cX12_goesBy 27 = .ok (.goto 58, 3) := by decide +kernel
theorem dX12_goesBy_30 : decode cX12_goesBy 30 = .ok (.aload_n 0, 1) := by decide +kernel
theorem dX12_goesBy_31 : decode cX12_goesBy 31 = .ok (.getfield 71, 3) := by decide +kernel
theorem dX12_goesBy_34 : decode cX12_goesBy 34 = .ok (.iload_n 1, 1) := by decide +kernel
theorem dX12_goesBy_35 : decode cX12_goesBy 35 = .ok (.iconst 1, 1) := by decide +kernel
theorem dX12_goesBy_36 : decode cX12_goesBy 36 = .ok (.iadd, 1) := by decide +kernel
theorem dX12_goesBy_37 : decode cX12_goesBy 37 = .ok (.iaload, 1) := by decide +kernel
theorem dX12_goesBy_38 : decode cX12_goesBy 38 = .ok (.iconst 3, 1) := by decide +kernel
theorem dX12_goesBy_39 : decode cX12_goesBy 39 = .ok (.if_icmp .ne 23, 3) := by decide +kernel
theorem dX12_goesBy_42 : decode cX12_goesBy 42 = .ok (.aload_n 0, 1) := by decide +kernel
theorem dX12_goesBy_43 : decode cX12_goesBy 43 = .ok (.getfield 7, 3) := by decide +kernel
theorem dX12_goesBy_46 : decode cX12_goesBy 46 = .ok (.bipush 19, 2) := by decide +kernel
theorem dX12_goesBy_48 : decode cX12_goesBy 48 = .ok (.aload_n 0, 1) := by decide +kernel
theorem dX12_goesBy_49 : decode cX12_goesBy 49 = .ok (.getfield 71, 3) := by decide +kernel
theorem dX12_goesBy_52 : decode cX12_goesBy 52 = .ok (.iload_n 1, 1) := by decide +kernel
theorem dX12_goesBy_53 : decode cX12_goesBy 53 = .ok (.iconst 2, 1) := by decide +kernel
theorem dX12_goesBy_54 : decode cX12_goesBy 54 = .ok (.iadd, 1) := by decide +kernel
theorem dX12_goesBy_55 : decode cX12_goesBy 55 = .ok (.iaload, 1) := by decide +kernel
theorem dX12_goesBy_56 : decode cX12_goesBy 56 = .ok (.iadd, 1) := by decide +kernel
theorem dX12_goesBy_57 : decode cX12_goesBy 57 = .ok (.iconst 0, 1) := by decide +kernel
theorem dX12_goesBy_58 : decode cX12_goesBy 58 = .ok (.iastore, 1) := by decide +kernel
theorem dX12_goesBy_59 : decode cX12_goesBy 59 = .ok (.goto 26, 3) := by decide +kernel
theorem dX12_goesBy_62 : decode cX12_goesBy 62 = .ok (.aload_n 0, 1) := by decide +kernel
theorem dX12_goesBy_63 : decode cX12_goesBy 63 = .ok (.getfield 7, 3) := by decide +kernel
theorem dX12_goesBy_66 : decode cX12_goesBy 66 = .ok (.iconst 3, 1) := by decide +kernel
theorem dX12_goesBy_67 : decode cX12_goesBy 67 = .ok (.aload_n 0, 1) := by decide +kernel
theorem dX12_goesBy_68 : decode cX12_goesBy 68 = .ok (.getfield 71, 3) := by decide +kernel
theorem dX12_goesBy_71 : decode cX12_goesBy 71 = .ok (.iload_n 1, 1) := by decide +kernel
theorem dX12_goesBy_72 : decode cX12_goesBy 72 = .ok (.iconst 1, 1) := by decide +kernel
theorem dX12_goesBy_73 : decode cX12_goesBy 73 = .ok (.iadd, 1) := by decide +kernel
theorem dX12_goesBy_74 : decode cX12_goesBy 74 = .ok (.iaload, 1) := by decide +kernel
theorem dX12_goesBy_75 : decode cX12_goesBy 75 = .ok (.iadd, 1) := by decide +kernel
theorem dX12_goesBy_76 : decode cX12_goesBy 76 = .ok (.aload_n 0, 1) := by decide +kernel
theorem dX12_goesBy_77 : decode cX12_goesBy 77 = .ok (.getfield 71, 3) := by decide +kernel
theorem dX12_goesBy_80 : decode cX12_goesBy 80 = .ok (.iload_n 1, 1) := by decide +kernel
theorem dX12_goesBy_81 : decode cX12_goesBy 81 = .ok (.iconst 2, 1) := by decide +kernel
theorem dX12_goesBy_82 : decode cX12_goesBy 82 = .ok (.iadd, 1) := by decide +kernel
theorem dX12_goesBy_83 : decode cX12_goesBy 83 = .ok (.iaload, 1) := by decide +kernel
theorem dX12_goesBy_84 : decode cX12_goesBy 84 = .ok (.iastore, 1) := by decide +kernel
theorem dX12_goesBy_85 : decode cX12_goesBy 85 = .ok (.iload_n 1, 1) := by decide +kernel
theorem dX12_goesBy_86 : decode cX12_goesBy 86 = .ok (.iconst 3, 1) := by decide +kernel
theorem dX12_goesBy_87 : decode cX12_goesBy 87 = .ok (.iadd, 1) := by decide +kernel
theorem dX12_goesBy_88 : decode cX12_goesBy 88 = .ok (.istore_n 1, 1) := by decide +kernel
theorem dX12_goesBy_89 : decode cX12_goesBy 89 = .ok (.goto (-87), 3) := by decide +kernel
theorem dX12_goesBy_92 : decode cX12_goesBy 92 = .ok (.iconst 0, 1) := by decide +kernel
theorem dX12_goesBy_93 : decode cX12_goesBy 93 = .ok (.istore_n 1, 1) := by decide +kernel
theorem dX12_goesBy_94 : decode cX12_goesBy 94 = .ok (.iload_n 1, 1) := by decide +kernel
theorem dX12_goesBy_95 : decode cX12_goesBy 95 = .ok (.aload_n 0, 1) := by decide +kernel
theorem dX12_goesBy_96 : decode cX12_goesBy 96 = .ok (.getfield 156, 3) := by decide +kernel
theorem dX12_goesBy_99 : decode cX12_goesBy 99 = .ok (.if_icmp .ge 22, 3) := by decide +kernel
theorem dX12_goesBy_102 : decode cX12_goesBy 102 = .ok (.aload_n 0, 1) := by decide +kernel
theorem dX12_goesBy_103 : decode cX12_goesBy 103 = .ok (.iload_n 1, 1) := by decide +kernel
theorem dX12_goesBy_104 : decode cX12_goesBy 104 = .ok (.invokevirtual 173, 3) := by decide +kernel
theorem dX12_goesBy_107 : decode cX12_goesBy 107 = .ok (.ifCond .ne 8, 3) := by decide +kernel
theorem dX12_goesBy_110 : decode cX12_goesBy 110 = .ok (.aload_n 0, 1) := by decide +kernel
theorem dX12_goesBy_111 : decode cX12_goesBy 111 = .ok (.iload_n 1, 1) := by decide +kernel
theorem dX12_goesBy_112 : decode cX12_goesBy 112 = .ok (.invokevirtual 409, 3) := by decide +kernel
theorem dX12_goesBy_115 : decode cX12_goesBy 115 = .ok (.iinc 1 1, 3) := by decide +kernel
theorem dX12_goesBy_118 : decode cX12_goesBy 118 = .ok (.goto (-24), 3) := by decide +kernel
theorem dX12_goesBy_121 : decode cX12_goesBy 121 = .ok (.iconst 0, 1) := by decide +kernel
theorem dX12_goesBy_122 : decode cX12_goesBy 122 = .ok (.istore_n 1, 1) := by decide +kernel
theorem dX12_goesBy_123 : decode cX12_goesBy 123 = .ok (.iconst 0, 1) := by decide +kernel
theorem dX12_goesBy_124 : decode cX12_goesBy 124 = .ok (.istore_n 2, 1) := by decide +kernel
theorem dX12_goesBy_125 : decode cX12_goesBy 125 = .ok (.iload_n 2, 1) := by decide +kernel
theorem dX12_goesBy_126 : decode cX12_goesBy 126 = .ok (.iconst 5, 1) := by decide +kernel
theorem dX12_goesBy_127 : decode cX12_goesBy 127 = .ok (.aload_n 0, 1) := by decide +kernel
theorem dX12_goesBy_128 : decode cX12_goesBy 128 = .ok (.getfield 323, 3) := by decide +kernel
theorem dX12_goesBy_131 : decode cX12_goesBy 131 = .ok (.imul, 1) := by decide +kernel
theorem dX12_goesBy_132 : decode cX12_goesBy 132 = .ok (.if_icmp .ge 33, 3) := by decide +kernel
theorem dX12_goesBy_135 : decode cX12_goesBy 135 = .ok (.aload_n 0, 1) := by decide +kernel
theorem dX12_goesBy_136 : decode cX12_goesBy 136 = .ok (.getfield 68, 3) := by decide +kernel
theorem dX12_goesBy_139 : decode cX12_goesBy 139 = .ok (.iload_n 2, 1) := by decide +kernel
theorem dX12_goesBy_140 : decode cX12_goesBy 140 = .ok (.iaload, 1) := by decide +kernel
theorem dX12_goesBy_141 : decode cX12_goesBy 141 = .ok (.aload_n 0, 1) := by decide +kernel
theorem dX12_goesBy_142 : decode cX12_goesBy 142 = .ok (.getfield 7, 3) := by decide +kernel
theorem dX12_goesBy_145 : decode cX12_goesBy 145 = .ok (.iconst 0, 1) := by decide +kernel
theorem dX12_goesBy_146 : decode cX12_goesBy 146 = .ok (.iaload, 1) := by decide +kernel
theorem dX12_goesBy_147 : decode cX12_goesBy 147 = .ok (.if_icmp .ne 11, 3) := by decide +kernel
theorem dX12_goesBy_150 : decode cX12_goesBy 150 = .ok (.iload_n 1, 1) := by decide +kernel
theorem dX12_goesBy_151 : decode cX12_goesBy 151 = .ok (.aload_n 0, 1) := by decide +kernel
theorem dX12_goesBy_152 : decode cX12_goesBy 152 = .ok (.iload_n 2, 1) := by decide +kernel
theorem dX12_goesBy_153 : decode cX12_goesBy 153 = .ok (.invokevirtual 412, 3) := by decide +kernel
theorem dX12_goesBy_156 : decode cX12_goesBy 156 = .ok (.iadd, 1) := by decide +kernel
theorem dX12_goesBy_157 : decode cX12_goesBy 157 = .ok (.istore_n 1, 1) := by decide +kernel
theorem dX12_goesBy_158 : decode cX12_goesBy 158 = .ok (.iload_n 2, 1) := by decide +kernel
theorem dX12_goesBy_159 : decode cX12_goesBy 159 = .ok (.iconst 5, 1) := by decide +kernel
theorem dX12_goesBy_160 : decode cX12_goesBy 160 = .ok (.iadd, 1) := by decide +kernel
theorem dX12_goesBy_161 : decode cX12_goesBy 161 = .ok (.istore_n 2, 1) := by decide +kernel
theorem dX12_goesBy_162 : decode cX12_goesBy 162 = .ok (.goto (-37), 3) := by decide +kernel
theorem dX12_goesBy_165 : decode cX12_goesBy 165 = .ok (.iconst 0, 1) := by decide +kernel
theorem dX12_goesBy_166 : decode cX12_goesBy 166 = .ok (.istore_n 2, 1) := by decide +kernel
theorem dX12_goesBy_167 : decode cX12_goesBy 167 = .ok (.iload_n 2, 1) := by decide +kernel
theorem dX12_goesBy_168 : decode cX12_goesBy 168 = .ok (.aload_n 0, 1) := by decide +kernel
theorem dX12_goesBy_169 : decode cX12_goesBy 169 = .ok (.getfield 159, 3) := by decide +kernel
theorem dX12_goesBy_172 : decode cX12_goesBy 172 = .ok (.if_icmp .ge 53, 3) := by decide +kernel
theorem dX12_goesBy_175 : decode cX12_goesBy 175 = .ok (.aload_n 0, 1) := by decide +kernel
theorem dX12_goesBy_176 : decode cX12_goesBy 176 = .ok (.getfield 7, 3) := by decide +kernel
theorem dX12_goesBy_179 : decode cX12_goesBy 179 = .ok (.bipush 31, 2) := by decide +kernel
theorem dX12_goesBy_181 : decode cX12_goesBy 181 = .ok (.iload_n 2, 1) := by decide +kernel
theorem dX12_goesBy_182 : decode cX12_goesBy 182 = .ok (.iadd, 1) := by decide +kernel
theorem dX12_goesBy_183 : decode cX12_goesBy 183 = .ok (.aload_n 0, 1) := by decide +kernel
theorem dX12_goesBy_184 : decode cX12_goesBy 184 = .ok (.getfield 7, 3) := by decide +kernel
theorem dX12_goesBy_187 : decode cX12_goesBy 187 = .ok (.bipush 31, 2) := by decide +kernel
theorem dX12_goesBy_189 : decode cX12_goesBy 189 = .ok (.iload_n 2, 1) := by decide +kernel
theorem dX12_goesBy_190 : decode cX12_goesBy 190 = .ok (.iadd, 1) := by decide +kernel
theorem dX12_goesBy_191 : decode cX12_goesBy 191 = .ok (.iaload, 1) := by decide +kernel
theorem dX12_goesBy_192 : decode cX12_goesBy 192 = .ok (.aload_n 0, 1) := by decide +kernel
theorem dX12_goesBy_193 : decode cX12_goesBy 193 = .ok (.aload_n 0, 1) := by decide +kernel
theorem dX12_goesBy_194 : decode cX12_goesBy 194 = .ok (.getfield 7, 3) := by decide +kernel
theorem dX12_goesBy_197 : decode cX12_goesBy 197 = .ok (.bipush 39, 2) := by decide +kernel
theorem dX12_goesBy_199 : decode cX12_goesBy 199 = .ok (.iload_n 2, 1) := by decide +kernel
theorem dX12_goesBy_200 : decode cX12_goesBy 200 = .ok (.iadd, 1) := by decide +kernel
theorem dX12_goesBy_201 : decode cX12_goesBy 201 = .ok (.iaload, 1) := by decide +kernel
theorem dX12_goesBy_202 : decode cX12_goesBy 202 = .ok (.aload_n 0, 1) := by decide +kernel
theorem dX12_goesBy_203 : decode cX12_goesBy 203 = .ok (.getfield 7, 3) := by decide +kernel
theorem dX12_goesBy_206 : decode cX12_goesBy 206 = .ok (.bipush 31, 2) := by decide +kernel
theorem dX12_goesBy_208 : decode cX12_goesBy 208 = .ok (.iload_n 2, 1) := by decide +kernel
theorem dX12_goesBy_209 : decode cX12_goesBy 209 = .ok (.iadd, 1) := by decide +kernel
theorem dX12_goesBy_210 : decode cX12_goesBy 210 = .ok (.iaload, 1) := by decide +kernel
theorem dX12_goesBy_211 : decode cX12_goesBy 211 = .ok (.isub, 1) := by decide +kernel
theorem dX12_goesBy_212 : decode cX12_goesBy 212 = .ok (.iconst (-1), 1) := by decide +kernel
theorem dX12_goesBy_213 : decode cX12_goesBy 213 = .ok (.iconst 1, 1) := by decide +kernel
theorem dX12_goesBy_214 : decode cX12_goesBy 214 = .ok (.invokevirtual 356, 3) := by decide +kernel
theorem dX12_goesBy_217 : decode cX12_goesBy 217 = .ok (.iadd, 1) := by decide +kernel
theorem dX12_goesBy_218 : decode cX12_goesBy 218 = .ok (.iastore, 1) := by decide +kernel
theorem dX12_goesBy_219 : decode cX12_goesBy 219 = .ok (.iinc 2 1, 3) := by decide +kernel
theorem dX12_goesBy_222 : decode cX12_goesBy 222 = .ok (.goto (-55), 3) := by decide +kernel
theorem dX12_goesBy_225 : decode cX12_goesBy 225 = .ok (.iconst 0, 1) := by decide +kernel
theorem dX12_goesBy_226 : decode cX12_goesBy 226 = .ok (.istore_n 2, 1) := by decide +kernel
theorem dX12_goesBy_227 : decode cX12_goesBy 227 = .ok (.iload_n 2, 1) := by decide +kernel
theorem dX12_goesBy_228 : decode cX12_goesBy 228 = .ok (.aload_n 0, 1) := by decide +kernel
theorem dX12_goesBy_229 : decode cX12_goesBy 229 = .ok (.getfield 162, 3) := by decide +kernel
theorem dX12_goesBy_232 : decode cX12_goesBy 232 = .ok (.if_icmp .ge 41, 3) := by decide +kernel
theorem dX12_goesBy_235 : decode cX12_goesBy 235 = .ok (.aload_n 0, 1) := by decide +kernel
theorem dX12_goesBy_236 : decode cX12_goesBy 236 = .ok (.getfield 7, 3) := by decide +kernel
theorem dX12_goesBy_239 : decode cX12_goesBy 239 = .ok (.bipush 63, 2) := by decide +kernel
theorem dX12_goesBy_241 : decode cX12_goesBy 241 = .ok (.iload_n 2, 1) := by decide +kernel
theorem dX12_goesBy_242 : decode cX12_goesBy 242 = .ok (.iadd, 1) := by decide +kernel
theorem dX12_goesBy_243 : decode cX12_goesBy 243 = .ok (.iaload, 1) := by decide +kernel
theorem dX12_goesBy_244 : decode cX12_goesBy 244 = .ok (.ifCond .le 23, 3) := by decide +kernel
theorem dX12_goesBy_247 : decode cX12_goesBy 247 = .ok (.aload_n 0, 1) := by decide +kernel
theorem dX12_goesBy_248 : decode cX12_goesBy 248 = .ok (.getfield 7, 3) := by decide +kernel
theorem dX12_goesBy_251 : decode cX12_goesBy 251 = .ok (.bipush 73, 2) := by decide +kernel
theorem dX12_goesBy_253 : decode cX12_goesBy 253 = .ok (.iload_n 2, 1) := by decide +kernel
theorem dX12_goesBy_254 : decode cX12_goesBy 254 = .ok (.iadd, 1) := by decide +kernel
theorem dX12_goesBy_255 : decode cX12_goesBy 255 = .ok (.aload_n 0, 1) := by decide +kernel
theorem dX12_goesBy_256 : decode cX12_goesBy 256 = .ok (.getfield 7, 3) := by decide +kernel
theorem dX12_goesBy_259 : decode cX12_goesBy 259 = .ok (.bipush 73, 2) := by decide +kernel
theorem dX12_goesBy_261 : decode cX12_goesBy 261 = .ok (.iload_n 2, 1) := by decide +kernel
theorem dX12_goesBy_262 : decode cX12_goesBy 262 = .ok (.iadd, 1) := by decide +kernel
theorem dX12_goesBy_263 : decode cX12_goesBy 263 = .ok (.iaload, 1) := by decide +kernel
theorem dX12_goesBy_264 : decode cX12_goesBy 264 = .ok (.iconst 1, 1) := by decide +kernel
theorem dX12_goesBy_265 : decode cX12_goesBy 265 = .ok (.iadd, 1) := by decide +kernel
theorem dX12_goesBy_266 : decode cX12_goesBy 266 = .ok (.iastore, 1) := by decide +kernel
theorem dX12_goesBy_267 : decode cX12_goesBy 267 = .ok (.iinc 2 1, 3) := by decide +kernel
theorem dX12_goesBy_270 : decode cX12_goesBy 270 = .ok (.goto (-43), 3) := by decide +kernel
theorem dX12_goesBy_273 : decode cX12_goesBy 273 = .ok (.aload_n 0, 1) := by decide +kernel
theorem dX12_goesBy_274 : decode cX12_goesBy 274 = .ok (.getfield 7, 3) := by decide +kernel
theorem dX12_goesBy_277 : decode cX12_goesBy 277 = .ok (.iconst 0, 1) := by decide +kernel
theorem dX12_goesBy_278 : decode cX12_goesBy 278 = .ok (.aload_n 0, 1) := by decide +kernel
theorem dX12_goesBy_279 : decode cX12_goesBy 279 = .ok (.getfield 7, 3) := by decide +kernel
theorem dX12_goesBy_282 : decode cX12_goesBy 282 = .ok (.iconst 0, 1) := by decide +kernel
theorem dX12_goesBy_283 : decode cX12_goesBy 283 = .ok (.iaload, 1) := by decide +kernel
theorem dX12_goesBy_284 : decode cX12_goesBy 284 = .ok (.iconst 1, 1) := by decide +kernel
theorem dX12_goesBy_285 : decode cX12_goesBy 285 = .ok (.iadd, 1) := by decide +kernel
theorem dX12_goesBy_286 : decode cX12_goesBy 286 = .ok (.iastore, 1) := by decide +kernel
theorem dX12_goesBy_287 : decode cX12_goesBy 287 = .ok (.iload_n 1, 1) := by decide +kernel
theorem dX12_goesBy_288 : decode cX12_goesBy 288 = .ok (.ireturn, 1) := by decide +kernel
theorem dX12_minutes_0 : decode cX12_minutes 0 = .ok (.aload_n 0, 1) := by decide +kernel
theorem dX12_minutes_1 : decode cX12_minutes 1 = .ok (.iconst 0, 1) := by decide +kernel
theorem dX12_minutes_2 : decode cX12_minutes 2 = .ok (.putfield 140, 3) := by decide +kernel
theorem dX12_minutes_5 : decode cX12_minutes 5 = .ok (.aload_n 0, 1) := by decide +kernel
theorem dX12_minutes_6 : decode cX12_minutes 6 = .ok (.iload_n 1, 1) := by decide +kernel
theorem dX12_minutes_7 : decode cX12_minutes 7 = .ok (.iconst 1, 1) := by decide +kernel
theorem dX12_minutes_8 : decode cX12_minutes 8 = .ok (.bipush 60, 2) := by decide +kernel
theorem dX12_minutes_10 : decode cX12_minutes 10 = .ok (.invokevirtual 165, 3) := by decide +kernel
theorem dX12_minutes_13 : decode cX12_minutes 13 = .ok (.ifCond .eq 17, 3) := by decide +kernel
theorem dX12_minutes_16 : decode cX12_minutes 16 = .ok (.aload_n 0, 1) := by decide +kernel
theorem dX12_minutes_17 : decode cX12_minutes 17 = .ok (.getfield 7, 3) := by decide +kernel
theorem dX12_minutes_20 : decode cX12_minutes 20 = .ok (.iconst 0, 1) := by decide +kernel
theorem dX12_minutes_21 : decode cX12_minutes 21 = .ok (.iaload, 1) := by decide +kernel
theorem dX12_minutes_22 : decode cX12_minutes 22 = .ok (.iload_n 1, 1) := by decide +kernel
theorem dX12_minutes_23 : decode cX12_minutes 23 = .ok (.iadd, 1) := by decide +kernel
theorem dX12_minutes_24 : decode cX12_minutes 24 = .ok (.sipush 9999, 3) := by decide +kernel
theorem dX12_minutes_27 : decode cX12_minutes 27 = .ok (.if_icmp .le 5, 3) := by decide +kernel
theorem dX12_minutes_30 : decode cX12_minutes 30 = .ok (.iconst (-1), 1) := by decide +kernel
theorem dX12_minutes_31 : decode cX12_minutes 31 = .ok (.ireturn, 1) := by decide +kernel
theorem dX12_minutes_32 : decode cX12_minutes 32 = .ok (.iconst 0, 1) := by decide +kernel
theorem dX12_minutes_33 : decode cX12_minutes 33 = .ok (.istore_n 2, 1) := by decide +kernel
theorem dX12_minutes_34 : decode cX12_minutes 34 = .ok (.iconst 0, 1) := by decide +kernel
theorem dX12_minutes_35 : decode cX12_minutes 35 = .ok (.istore_n 3, 1) := by decide +kernel
theorem dX12_minutes_36 : decode cX12_minutes 36 = .ok (.iload_n 3, 1) := by decide +kernel
theorem dX12_minutes_37 : decode cX12_minutes 37 = .ok (.iload_n 1, 1) := by decide +kernel
theorem dX12_minutes_38 : decode cX12_minutes 38 = .ok (.if_icmp .ge 20, 3) := by decide +kernel
theorem dX12_minutes_41 : decode cX12_minutes 41 = .ok (.aload_n 0, 1) := by decide +kernel
theorem dX12_minutes_42 : decode cX12_minutes 42 = .ok (.invokevirtual 394, 3) := by decide +kernel
theorem dX12_minutes_45 : decode cX12_minutes 45 = .ok (.iload_n 2, 1) := by decide +kernel
theorem dX12_minutes_46 : decode cX12_minutes 46 = .ok (.aload_n 0, 1) := by decide +kernel
theorem dX12_minutes_47 : decode cX12_minutes 47 = .ok (.invokevirtual 415, 3) := by decide +kernel
theorem dX12_minutes_50 : decode cX12_minutes 50 = .ok (.iadd, 1) := by decide +kernel
theorem dX12_minutes_51 : decode cX12_minutes 51 = .ok (.istore_n 2, 1) := by decide +kernel
theorem dX12_minutes_52 : decode cX12_minutes 52 = .ok (.iinc 3 1, 3) := by decide +kernel
theorem dX12_minutes_55 : decode cX12_minutes 55 = .ok (.goto (-19), 3) := by decide +kernel
theorem dX12_minutes_58 : decode cX12_minutes 58 = .ok (.iload_n 2, 1) := by decide +kernel
theorem dX12_minutes_59 : decode cX12_minutes 59 = .ok (.ireturn, 1) := by decide +kernel
theorem dX12_of_0 : decode cX12_of 0 = .ok (.aload_n 0, 1) := by decide +kernel
theorem dX12_of_1 : decode cX12_of 1 = .ok (.iconst 0, 1) := by decide +kernel
theorem dX12_of_2 : decode cX12_of 2 = .ok (.putfield 140, 3) := by decide +kernel
theorem dX12_of_5 : decode cX12_of 5 = .ok (.aload_n 0, 1) := by decide +kernel
theorem dX12_of_6 : decode cX12_of 6 = .ok (.iload_n 1, 1) := by decide +kernel
theorem dX12_of_7 : decode cX12_of 7 = .ok (.invokevirtual 169, 3) := by decide +kernel
theorem dX12_of_10 : decode cX12_of 10 = .ok (.ifCond .ne 5, 3) := by decide +kernel
theorem dX12_of_13 : decode cX12_of 13 = .ok (.iconst (-1), 1) := by decide +kernel
theorem dX12_of_14 : decode cX12_of 14 = .ok (.ireturn, 1) := by decide +kernel
theorem dX12_of_15 : decode cX12_of 15 = .ok (.iload_n 2, 1) := by decide +kernel
theorem dX12_of_16 : decode cX12_of 16 = .ok (.ifCond .ne 10, 3) := by decide +kernel
theorem dX12_of_19 : decode cX12_of 19 = .ok (.aload_n 0, 1) := by decide +kernel
theorem dX12_of_20 : decode cX12_of 20 = .ok (.getfield 19, 3) := by decide +kernel
theorem dX12_of_23 : decode cX12_of 23 = .ok (.iload_n 1, 1) := by decide +kernel
theorem dX12_of_24 : decode cX12_of 24 = .ok (.iaload, 1) := by decide +kernel
theorem dX12_of_25 : decode cX12_of 25 = .ok (.ireturn, 1) := by decide +kernel
theorem dX12_of_26 : decode cX12_of 26 = .ok (.iload_n 2, 1) := by decide +kernel
theorem dX12_of_27 : decode cX12_of 27 = .ok (.iconst 1, 1) := by decide +kernel
theorem dX12_of_28 : decode cX12_of 28 = .ok (.if_icmp .ne 10, 3) := by decide +kernel
theorem dX12_of_31 : decode cX12_of 31 = .ok (.aload_n 0, 1) := by decide +kernel
theorem dX12_of_32 : decode cX12_of 32 = .ok (.getfield 22, 3) := by decide +kernel
theorem dX12_of_35 : decode cX12_of 35 = .ok (.iload_n 1, 1) := by decide +kernel
theorem dX12_of_36 : decode cX12_of 36 = .ok (.iaload, 1) := by decide +kernel
theorem dX12_of_37 : decode cX12_of 37 = .ok (.ireturn, 1) := by decide +kernel
theorem dX12_of_38 : decode cX12_of 38 = .ok (.iload_n 2, 1) := by decide +kernel
theorem dX12_of_39 : decode cX12_of 39 = .ok (.iconst 2, 1) := by decide +kernel
theorem dX12_of_40 : decode cX12_of 40 = .ok (.if_icmp .eq 8, 3) := by decide +kernel
theorem dX12_of_43 : decode cX12_of 43 = .ok (.iload_n 2, 1) := by decide +kernel
theorem dX12_of_44 : decode cX12_of 44 = .ok (.iconst 3, 1) := by decide +kernel
theorem dX12_of_45 : decode cX12_of 45 = .ok (.if_icmp .ne 20, 3) := by decide +kernel
theorem dX12_of_48 : decode cX12_of 48 = .ok (.aload_n 0, 1) := by decide +kernel
theorem dX12_of_49 : decode cX12_of 49 = .ok (.getfield 7, 3) := by decide +kernel
theorem dX12_of_52 : decode cX12_of 52 = .ok (.bipush 7, 2) := by decide +kernel
theorem dX12_of_54 : decode cX12_of 54 = .ok (.bipush 12, 2) := by decide +kernel
theorem dX12_of_56 : decode cX12_of 56 = .ok (.iload_n 2, 1) := by decide +kernel
theorem dX12_of_57 : decode cX12_of 57 = .ok (.iconst 2, 1) := by decide +kernel
theorem dX12_of_58 : decode cX12_of 58 = .ok (.isub, 1) := by decide +kernel
theorem dX12_of_59 : decode cX12_of 59 = .ok (.imul, 1) := by decide +kernel
theorem dX12_of_60 : decode cX12_of 60 = .ok (.iadd, 1) := by decide +kernel
theorem dX12_of_61 : decode cX12_of 61 = .ok (.iload_n 1, 1) := by decide +kernel
theorem dX12_of_62 : decode cX12_of 62 = .ok (.iadd, 1) := by decide +kernel
theorem dX12_of_63 : decode cX12_of 63 = .ok (.iaload, 1) := by decide +kernel
theorem dX12_of_64 : decode cX12_of 64 = .ok (.ireturn, 1) := by decide +kernel
theorem dX12_of_65 : decode cX12_of 65 = .ok (.iload_n 2, 1) := by decide +kernel
theorem dX12_of_66 : decode cX12_of 66 = .ok (.iconst 4, 1) := by decide +kernel
theorem dX12_of_67 : decode cX12_of 67 = .ok (.if_icmp .ne 9, 3) := by decide +kernel
theorem dX12_of_70 : decode cX12_of 70 = .ok (.aload_n 0, 1) := by decide +kernel
theorem dX12_of_71 : decode cX12_of 71 = .ok (.iload_n 1, 1) := by decide +kernel
theorem dX12_of_72 : decode cX12_of 72 = .ok (.invokevirtual 403, 3) := by decide +kernel
theorem dX12_of_75 : decode cX12_of 75 = .ok (.ireturn, 1) := by decide +kernel
theorem dX12_of_76 : decode cX12_of 76 = .ok (.iload_n 2, 1) := by decide +kernel
theorem dX12_of_77 : decode cX12_of 77 = .ok (.iconst 5, 1) := by decide +kernel
theorem dX12_of_78 : decode cX12_of 78 = .ok (.if_icmp .ne 9, 3) := by decide +kernel
theorem dX12_of_81 : decode cX12_of 81 = .ok (.aload_n 0, 1) := by decide +kernel
theorem dX12_of_82 : decode cX12_of 82 = .ok (.iload_n 1, 1) := by decide +kernel
theorem dX12_of_83 : decode cX12_of 83 = .ok (.invokevirtual 406, 3) := by decide +kernel
theorem dX12_of_86 : decode cX12_of 86 = .ok (.ireturn, 1) := by decide +kernel
theorem dX12_of_87 : decode cX12_of 87 = .ok (.iload_n 2, 1) := by decide +kernel
theorem dX12_of_88 : decode cX12_of 88 = .ok (.bipush 6, 2) := by decide +kernel
theorem dX12_of_90 : decode cX12_of 90 = .ok (.if_icmp .ne 11, 3) := by decide +kernel
theorem dX12_of_93 : decode cX12_of 93 = .ok (.aload_n 0, 1) := by decide +kernel
theorem dX12_of_94 : decode cX12_of 94 = .ok (.iload_n 1, 1) := by decide +kernel
theorem dX12_of_95 : decode cX12_of 95 = .ok (.invokevirtual 382, 3) := by decide +kernel
theorem dX12_of_98 : decode cX12_of 98 = .ok (.goto 19, 3) := by decide +kernel
theorem dX12_of_101 : decode cX12_of 101 = .ok (.iload_n 2, 1) := by decide +kernel
theorem dX12_of_102 : decode cX12_of 102 = .ok (.bipush 7, 2) := by decide +kernel
theorem dX12_of_104 : decode cX12_of 104 = .ok (.if_icmp .ne 12, 3) := by decide +kernel
theorem dX12_of_107 : decode cX12_of 107 = .ok (.aload_n 0, 1) := by decide +kernel
theorem dX12_of_108 : decode cX12_of 108 = .ok (.getfield 74, 3) := by decide +kernel
theorem dX12_of_111 : decode cX12_of 111 = .ok (.iload_n 1, 1) := by decide +kernel
theorem dX12_of_112 : decode cX12_of 112 = .ok (.iaload, 1) := by decide +kernel
theorem dX12_of_113 : decode cX12_of 113 = .ok (.goto 4, 3) := by decide +kernel
theorem dX12_of_116 : decode cX12_of 116 = .ok (.iconst (-1), 1) := by decide +kernel
theorem dX12_of_117 : decode cX12_of 117 = .ok (.ireturn, 1) := by decide +kernel
theorem dX12_who_0 : decode cX12_who 0 = .ok (.aload_n 0, 1) := by decide +kernel
theorem dX12_who_1 : decode cX12_who 1 = .ok (.iconst 0, 1) := by decide +kernel
theorem dX12_who_2 : decode cX12_who 2 = .ok (.putfield 140, 3) := by decide +kernel
theorem dX12_who_5 : decode cX12_who 5 = .ok (.aload_n 0, 1) := by decide +kernel
theorem dX12_who_6 : decode cX12_who 6 = .ok (.iload_n 1, 1) := by decide +kernel
theorem dX12_who_7 : decode cX12_who 7 = .ok (.invokevirtual 179, 3) := by decide +kernel
theorem dX12_who_10 : decode cX12_who 10 = .ok (.ifCond .eq 30, 3) := by decide +kernel
theorem dX12_who_13 : decode cX12_who 13 = .ok (.aload_n 0, 1) := by decide +kernel
theorem dX12_who_14 : decode cX12_who 14 = .ok (.iload_n 2, 1) := by decide +kernel
theorem dX12_who_15 : decode cX12_who 15 = .ok (.iconst 0, 1) := by decide +kernel
theorem dX12_who_16 : decode cX12_who 16 = .ok (.iconst 3, 1) := by decide +kernel
theorem dX12_who_17 : decode cX12_who 17 = .ok (.invokevirtual 165, 3) := by decide +kernel
theorem dX12_who_20 : decode cX12_who 20 = .ok (.ifCond .eq 20, 3) := by decide +kernel
theorem dX12_who_23 : decode cX12_who 23 = .ok (.aload_n 0, 1) := by decide +kernel
theorem dX12_who_24 : decode cX12_who 24 = .ok (.getfield 7, 3) := by decide +kernel
theorem dX12_who_27 : decode cX12_who 27 = .ok (.bipush 31, 2) := by decide +kernel
theorem dX12_who_29 : decode cX12_who 29 = .ok (.bipush 8, 2) := by decide +kernel
theorem dX12_who_31 : decode cX12_who 31 = .ok (.iload_n 2, 1) := by decide +kernel
theorem dX12_who_32 : decode cX12_who 32 = .ok (.imul, 1) := by decide +kernel
theorem dX12_who_33 : decode cX12_who 33 = .ok (.iadd, 1) := by decide +kernel
theorem dX12_who_34 : decode cX12_who 34 = .ok (.iload_n 1, 1) := by decide +kernel
theorem dX12_who_35 : decode cX12_who 35 = .ok (.iadd, 1) := by decide +kernel
theorem dX12_who_36 : decode cX12_who 36 = .ok (.iaload, 1) := by decide +kernel
theorem dX12_who_37 : decode cX12_who 37 = .ok (.goto 4, 3) := by decide +kernel
theorem dX12_who_40 : decode cX12_who 40 = .ok (.iconst (-1), 1) := by decide +kernel
theorem dX12_who_41 : decode cX12_who 41 = .ok (.ireturn, 1) := by decide +kernel
theorem dX12_weeper_0 : decode cX12_weeper 0 = .ok (.aload_n 0, 1) := by decide +kernel
theorem dX12_weeper_1 : decode cX12_weeper 1 = .ok (.iconst 0, 1) := by decide +kernel
theorem dX12_weeper_2 : decode cX12_weeper 2 = .ok (.putfield 140, 3) := by decide +kernel
theorem dX12_weeper_5 : decode cX12_weeper 5 = .ok (.aload_n 0, 1) := by decide +kernel
theorem dX12_weeper_6 : decode cX12_weeper 6 = .ok (.iload_n 1, 1) := by decide +kernel
theorem dX12_weeper_7 : decode cX12_weeper 7 = .ok (.invokevirtual 182, 3) := by decide +kernel
theorem dX12_weeper_10 : decode cX12_weeper 10 = .ok (.ifCond .ne 5, 3) := by decide +kernel
theorem dX12_weeper_13 : decode cX12_weeper 13 = .ok (.iconst (-1), 1) := by decide +kernel
theorem dX12_weeper_14 : decode cX12_weeper 14 = .ok (.ireturn, 1) := by decide +kernel
theorem dX12_weeper_15 : decode cX12_weeper 15 = .ok (.iload_n 2, 1) := by decide +kernel
theorem dX12_weeper_16 : decode cX12_weeper 16 = .ok (.ifCond .ne 10, 3) := by decide +kernel
theorem dX12_weeper_19 : decode cX12_weeper 19 = .ok (.aload_n 0, 1) := by decide +kernel
theorem dX12_weeper_20 : decode cX12_weeper 20 = .ok (.getfield 25, 3) := by decide +kernel
theorem dX12_weeper_23 : decode cX12_weeper 23 = .ok (.iload_n 1, 1) := by decide +kernel
theorem dX12_weeper_24 : decode cX12_weeper 24 = .ok (.iaload, 1) := by decide +kernel
theorem dX12_weeper_25 : decode cX12_weeper 25 = .ok (.ireturn, 1) := by decide +kernel
theorem dX12_weeper_26 : decode cX12_weeper 26 = .ok (.iload_n 2, 1) := by decide +kernel
theorem dX12_weeper_27 : decode cX12_weeper 27 = .ok (.iconst 1, 1) := by decide +kernel
theorem dX12_weeper_28 : decode cX12_weeper 28 = .ok (.if_icmp .ne 13, 3) := by decide +kernel
theorem dX12_weeper_31 : decode cX12_weeper 31 = .ok (.aload_n 0, 1) := by decide +kernel
theorem dX12_weeper_32 : decode cX12_weeper 32 = .ok (.getfield 7, 3) := by decide +kernel
theorem dX12_weeper_35 : decode cX12_weeper 35 = .ok (.bipush 63, 2) := by decide +kernel
theorem dX12_weeper_37 : decode cX12_weeper 37 = .ok (.iload_n 1, 1) := by decide +kernel
theorem dX12_weeper_38 : decode cX12_weeper 38 = .ok (.iadd, 1) := by decide +kernel
theorem dX12_weeper_39 : decode cX12_weeper 39 = .ok (.iaload, 1) := by decide +kernel
theorem dX12_weeper_40 : decode cX12_weeper 40 = .ok (.ireturn, 1) := by decide +kernel
theorem dX12_weeper_41 : decode cX12_weeper 41 = .ok (.iload_n 2, 1) := by decide +kernel
theorem dX12_weeper_42 : decode cX12_weeper 42 = .ok (.iconst 2, 1) := by decide +kernel
theorem dX12_weeper_43 : decode cX12_weeper 43 = .ok (.if_icmp .ne 10, 3) := by decide +kernel
theorem dX12_weeper_46 : decode cX12_weeper 46 = .ok (.aload_n 0, 1) := by decide +kernel
theorem dX12_weeper_47 : decode cX12_weeper 47 = .ok (.getfield 28, 3) := by decide +kernel
theorem dX12_weeper_50 : decode cX12_weeper 50 = .ok (.iload_n 1, 1) := by decide +kernel
theorem dX12_weeper_51 : decode cX12_weeper 51 = .ok (.iaload, 1) := by decide +kernel
theorem dX12_weeper_52 : decode cX12_weeper 52 = .ok (.ireturn, 1) := by decide +kernel
theorem dX12_weeper_53 : decode cX12_weeper 53 = .ok (.iload_n 2, 1) := by decide +kernel
theorem dX12_weeper_54 : decode cX12_weeper 54 = .ok (.iconst 3, 1) := by decide +kernel
theorem dX12_weeper_55 : decode cX12_weeper 55 = .ok (.if_icmp .ne 15, 3) := by decide +kernel
theorem dX12_weeper_58 : decode cX12_weeper 58 = .ok (.aload_n 0, 1) := by decide +kernel
theorem dX12_weeper_59 : decode cX12_weeper 59 = .ok (.getfield 7, 3) := by decide +kernel
theorem dX12_weeper_62 : decode cX12_weeper 62 = .ok (.bipush 73, 2) := by decide +kernel
theorem dX12_weeper_64 : decode cX12_weeper 64 = .ok (.iload_n 1, 1) := by decide +kernel
theorem dX12_weeper_65 : decode cX12_weeper 65 = .ok (.iadd, 1) := by decide +kernel
theorem dX12_weeper_66 : decode cX12_weeper 66 = .ok (.iaload, 1) := by decide +kernel
theorem dX12_weeper_67 : decode cX12_weeper 67 = .ok (.goto 21, 3) := by decide +kernel
theorem dX12_weeper_70 : decode cX12_weeper 70 = .ok (.iload_n 2, 1) := by decide +kernel
theorem dX12_weeper_71 : decode cX12_weeper 71 = .ok (.iconst 4, 1) := by decide +kernel
theorem dX12_weeper_72 : decode cX12_weeper 72 = .ok (.if_icmp .ne 15, 3) := by decide +kernel
theorem dX12_weeper_75 : decode cX12_weeper 75 = .ok (.aload_n 0, 1) := by decide +kernel
theorem dX12_weeper_76 : decode cX12_weeper 76 = .ok (.getfield 7, 3) := by decide +kernel
theorem dX12_weeper_79 : decode cX12_weeper 79 = .ok (.bipush 83, 2) := by decide +kernel
theorem dX12_weeper_81 : decode cX12_weeper 81 = .ok (.iload_n 1, 1) := by decide +kernel
theorem dX12_weeper_82 : decode cX12_weeper 82 = .ok (.iadd, 1) := by decide +kernel
theorem dX12_weeper_83 : decode cX12_weeper 83 = .ok (.iaload, 1) := by decide +kernel
theorem dX12_weeper_84 : decode cX12_weeper 84 = .ok (.goto 4, 3) := by decide +kernel
theorem dX12_weeper_87 : decode cX12_weeper 87 = .ok (.iconst (-1), 1) := by decide +kernel
theorem dX12_weeper_88 : decode cX12_weeper 88 = .ok (.ireturn, 1) := by decide +kernel
theorem dX12_book_0 : decode cX12_book 0 = .ok (.aload_n 0, 1) := by decide +kernel
theorem dX12_book_1 : decode cX12_book 1 = .ok (.iconst 0, 1) := by decide +kernel
theorem dX12_book_2 : decode cX12_book 2 = .ok (.putfield 140, 3) := by decide +kernel
theorem dX12_book_5 : decode cX12_book 5 = .ok (.aload_n 0, 1) := by decide +kernel
theorem dX12_book_6 : decode cX12_book 6 = .ok (.iload_n 1, 1) := by decide +kernel
theorem dX12_book_7 : decode cX12_book 7 = .ok (.iconst 0, 1) := by decide +kernel
theorem dX12_book_8 : decode cX12_book 8 = .ok (.aload_n 0, 1) := by decide +kernel
theorem dX12_book_9 : decode cX12_book 9 = .ok (.getfield 7, 3) := by decide +kernel
theorem dX12_book_12 : decode cX12_book 12 = .ok (.iconst 2, 1) := by decide +kernel
theorem dX12_book_13 : decode cX12_book 13 = .ok (.iaload, 1) := by decide +kernel
theorem dX12_book_14 : decode cX12_book 14 = .ok (.iconst 1, 1) := by decide +kernel
theorem dX12_book_15 : decode cX12_book 15 = .ok (.isub, 1) := by decide +kernel
theorem dX12_book_16 : decode cX12_book 16 = .ok (.invokevirtual 165, 3) := by decide +kernel
theorem dX12_book_19 : decode cX12_book 19 = .ok (.ifCond .eq 26, 3) := by decide +kernel
theorem dX12_book_22 : decode cX12_book 22 = .ok (.aload_n 0, 1) := by decide +kernel
theorem dX12_book_23 : decode cX12_book 23 = .ok (.iload_n 2, 1) := by decide +kernel
theorem dX12_book_24 : decode cX12_book 24 = .ok (.iconst 0, 1) := by decide +kernel
theorem dX12_book_25 : decode cX12_book 25 = .ok (.iconst 3, 1) := by decide +kernel
theorem dX12_book_26 : decode cX12_book 26 = .ok (.invokevirtual 165, 3) := by decide +kernel
theorem dX12_book_29 : decode cX12_book 29 = .ok (.ifCond .eq 16, 3) := by decide +kernel
theorem dX12_book_32 : decode cX12_book 32 = .ok (.aload_n 0, 1) := by decide +kernel
theorem dX12_book_33 : decode cX12_book 33 = .ok (.getfield 31, 3) := by decide +kernel
theorem dX12_book_36 : decode cX12_book 36 = .ok (.iconst 4, 1) := by decide +kernel
theorem dX12_book_37 : decode cX12_book 37 = .ok (.iload_n 1, 1) := by decide +kernel
theorem dX12_book_38 : decode cX12_book 38 = .ok (.imul, 1) := by decide +kernel
theorem dX12_book_39 : decode cX12_book 39 = .ok (.iload_n 2, 1) := by decide +kernel
theorem dX12_book_40 : decode cX12_book 40 = .ok (.iadd, 1) := by decide +kernel
theorem dX12_book_41 : decode cX12_book 41 = .ok (.iaload, 1) := by decide +kernel
theorem dX12_book_42 : decode cX12_book 42 = .ok (.goto 4, 3) := by decide +kernel
theorem dX12_book_45 : decode cX12_book 45 = .ok (.iconst (-1), 1) := by decide +kernel
theorem dX12_book_46 : decode cX12_book 46 = .ok (.ireturn, 1) := by decide +kernel
theorem dX12_sumOf_0 : decode cX12_sumOf 0 = .ok (.iconst 0, 1) := by decide +kernel
theorem dX12_sumOf_1 : decode cX12_sumOf 1 = .ok (.istore_n 3, 1) := by decide +kernel
theorem dX12_sumOf_2 : decode cX12_sumOf 2 = .ok (.iconst 0, 1) := by decide +kernel
theorem dX12_sumOf_3 : decode cX12_sumOf 3 = .ok (.istore 4, 2) := by decide +kernel
theorem dX12_sumOf_5 : decode cX12_sumOf 5 = .ok (.iload 4, 2) := by decide +kernel
theorem dX12_sumOf_7 : decode cX12_sumOf 7 = .ok (.iload_n 2, 1) := by decide +kernel
theorem dX12_sumOf_8 : decode cX12_sumOf 8 = .ok (.if_icmp .ge 21, 3) := by decide +kernel
theorem dX12_sumOf_11 : decode cX12_sumOf 11 = .ok (.iload_n 3, 1) := by decide +kernel
theorem dX12_sumOf_12 : decode cX12_sumOf 12 = .ok (.aload_n 0, 1) := by decide +kernel
theorem dX12_sumOf_13 : decode cX12_sumOf 13 = .ok (.getfield 7, 3) := by decide +kernel
theorem dX12_sumOf_16 : decode cX12_sumOf 16 = .ok (.iload_n 1, 1) := by decide +kernel
theorem dX12_sumOf_17 : decode cX12_sumOf 17 = .ok (.iload 4, 2) := by decide +kernel
theorem dX12_sumOf_19 : decode cX12_sumOf 19 = .ok (.iadd, 1) := by decide +kernel
theorem dX12_sumOf_20 : decode cX12_sumOf 20 = .ok (.iaload, 1) := by decide +kernel
theorem dX12_sumOf_21 : decode cX12_sumOf 21 = .ok (.iadd, 1) := by decide +kernel
theorem dX12_sumOf_22 : decode cX12_sumOf 22 = .ok (.istore_n 3, 1) := by decide +kernel
theorem dX12_sumOf_23 : decode cX12_sumOf 23 = .ok (.iinc 4 1, 3) := by decide +kernel
theorem dX12_sumOf_26 : decode cX12_sumOf 26 = .ok (.goto (-21), 3) := by decide +kernel
theorem dX12_sumOf_29 : decode cX12_sumOf 29 = .ok (.iload_n 3, 1) := by decide +kernel
theorem dX12_sumOf_30 : decode cX12_sumOf 30 = .ok (.ireturn, 1) := by decide +kernel
theorem dX12_goes_0 : decode cX12_goes 0 = .ok (.aload_n 0, 1) := by decide +kernel
theorem dX12_goes_1 : decode cX12_goes 1 = .ok (.iconst 0, 1) := by decide +kernel
theorem dX12_goes_2 : decode cX12_goes 2 = .ok (.putfield 140, 3) := by decide +kernel
theorem dX12_goes_5 : decode cX12_goes 5 = .ok (.aload_n 0, 1) := by decide +kernel
theorem dX12_goes_6 : decode cX12_goes 6 = .ok (.iload_n 1, 1) := by decide +kernel
theorem dX12_goes_7 : decode cX12_goes 7 = .ok (.iconst 1, 1) := by decide +kernel
theorem dX12_goes_8 : decode cX12_goes 8 = .ok (.bipush 60, 2) := by decide +kernel
theorem dX12_goes_10 : decode cX12_goes 10 = .ok (.invokevirtual 165, 3) := by decide +kernel
theorem dX12_goes_13 : decode cX12_goes 13 = .ok (.ifCond .eq 13, 3) := by decide +kernel
theorem dX12_goes_16 : decode cX12_goes 16 = .ok (.aload_n 0, 1) := by decide +kernel
theorem dX12_goes_17 : decode cX12_goes 17 = .ok (.iload_n 2, 1) := by decide +kernel
theorem dX12_goes_18 : decode cX12_goes 18 = .ok (.iconst 0, 1) := by decide +kernel
theorem dX12_goes_19 : decode cX12_goes 19 = .ok (.iconst 3, 1) := by decide +kernel
theorem dX12_goes_20 : decode cX12_goes 20 = .ok (.invokevirtual 165, 3) := by decide +kernel
theorem dX12_goes_23 : decode cX12_goes 23 = .ok (.ifCond .ne 5, 3) := by decide +kernel
theorem dX12_goes_26 : decode cX12_goes 26 = .ok (.iconst (-1), 1) := by decide +kernel
theorem dX12_goes_27 : decode cX12_goes 27 = .ok (.ireturn, 1) := by decide +kernel
theorem dX12_goes_28 : decode cX12_goes 28 = .ok (.aload_n 0, 1) := by decide +kernel
theorem dX12_goes_29 : decode cX12_goes 29 = .ok (.invokevirtual 418, 3) := by decide +kernel
theorem dX12_goes_32 : decode cX12_goes 32 = .ok (.iconst 0, 1) := by decide +kernel
theorem dX12_goes_33 : decode cX12_goes 33 = .ok (.istore_n 3, 1) := by decide +kernel
theorem dX12_goes_34 : decode cX12_goes 34 = .ok (.iload_n 3, 1) := by decide +kernel
theorem dX12_goes_35 : decode cX12_goes 35 = .ok (.iload_n 1, 1) := by decide +kernel
theorem dX12_goes_36 : decode cX12_goes 36 = .ok (.if_icmp .ge 14, 3) := by decide +kernel
theorem dX12_goes_39 : decode cX12_goes 39 = .ok (.aload_n 0, 1) := by decide +kernel
theorem dX12_goes_40 : decode cX12_goes 40 = .ok (.invokevirtual 415, 3) := by decide +kernel
theorem dX12_goes_43 : decode cX12_goes 43 = .ok (.pop, 1) := by decide +kernel
theorem dX12_goes_44 : decode cX12_goes 44 = .ok (.iinc 3 1, 3) := by decide +kernel
theorem dX12_goes_47 : decode cX12_goes 47 = .ok (.goto (-13), 3) := by decide +kernel
theorem dX12_goes_50 : decode cX12_goes 50 = .ok (.iload_n 2, 1) := by decide +kernel
theorem dX12_goes_51 : decode cX12_goes 51 = .ok (.ifCond .ne 16, 3) := by decide +kernel
theorem dX12_goes_54 : decode cX12_goes 54 = .ok (.aload_n 0, 1) := by decide +kernel
theorem dX12_goes_55 : decode cX12_goes 55 = .ok (.bipush 7, 2) := by decide +kernel
theorem dX12_goes_57 : decode cX12_goes 57 = .ok (.aload_n 0, 1) := by decide +kernel
theorem dX12_goes_58 : decode cX12_goes 58 = .ok (.getfield 156, 3) := by decide +kernel
theorem dX12_goes_61 : decode cX12_goes 61 = .ok (.invokevirtual 421, 3) := by decide +kernel
theorem dX12_goes_64 : decode cX12_goes 64 = .ok (.goto 46, 3) := by decide +kernel
theorem dX12_goes_67 : decode cX12_goes 67 = .ok (.iload_n 2, 1) := by decide +kernel
theorem dX12_goes_68 : decode cX12_goes 68 = .ok (.iconst 1, 1) := by decide +kernel
theorem dX12_goes_69 : decode cX12_goes 69 = .ok (.if_icmp .ne 16, 3) := by decide +kernel
theorem dX12_goes_72 : decode cX12_goes 72 = .ok (.aload_n 0, 1) := by decide +kernel
theorem dX12_goes_73 : decode cX12_goes 73 = .ok (.bipush 83, 2) := by decide +kernel
theorem dX12_goes_75 : decode cX12_goes 75 = .ok (.aload_n 0, 1) := by decide +kernel
theorem dX12_goes_76 : decode cX12_goes 76 = .ok (.getfield 162, 3) := by decide +kernel
theorem dX12_goes_79 : decode cX12_goes 79 = .ok (.invokevirtual 421, 3) := by decide +kernel
theorem dX12_goes_82 : decode cX12_goes 82 = .ok (.goto 28, 3) := by decide +kernel
theorem dX12_goes_85 : decode cX12_goes 85 = .ok (.iload_n 2, 1) := by decide +kernel
theorem dX12_goes_86 : decode cX12_goes 86 = .ok (.iconst 2, 1) := by decide +kernel
theorem dX12_goes_87 : decode cX12_goes 87 = .ok (.if_icmp .ne 16, 3) := by decide +kernel
theorem dX12_goes_90 : decode cX12_goes 90 = .ok (.aload_n 0, 1) := by decide +kernel
theorem dX12_goes_91 : decode cX12_goes 91 = .ok (.bipush 55, 2) := by decide +kernel
theorem dX12_goes_93 : decode cX12_goes 93 = .ok (.aload_n 0, 1) := by decide +kernel
theorem dX12_goes_94 : decode cX12_goes 94 = .ok (.getfield 159, 3) := by decide +kernel
theorem dX12_goes_97 : decode cX12_goes 97 = .ok (.invokevirtual 421, 3) := by decide +kernel
theorem dX12_goes_100 : decode cX12_goes 100 = .ok (.goto 10, 3) := by decide +kernel
theorem dX12_goes_103 : decode cX12_goes 103 = .ok (.aload_n 0, 1) := by decide +kernel
theorem dX12_goes_104 : decode cX12_goes 104 = .ok (.getfield 7, 3) := by decide +kernel
theorem dX12_goes_107 : decode cX12_goes 107 = .ok (.bipush 6, 2) := by decide +kernel
theorem dX12_goes_109 : decode cX12_goes 109 = .ok (.iaload, 1) := by decide +kernel
theorem dX12_goes_110 : decode cX12_goes 110 = .ok (.istore_n 3, 1) := by decide +kernel
theorem dX12_goes_111 : decode cX12_goes 111 = .ok (.aload_n 0, 1) := by decide +kernel
theorem dX12_goes_112 : decode cX12_goes 112 = .ok (.invokevirtual 424, 3) := by decide +kernel
theorem dX12_goes_115 : decode cX12_goes 115 = .ok (.iload_n 3, 1) := by decide +kernel
theorem dX12_goes_116 : decode cX12_goes 116 = .ok (.ireturn, 1) := by decide +kernel
theorem dX12_weeps_0 : decode cX12_weeps 0 = .ok (.aload_n 0, 1) := by decide +kernel
theorem dX12_weeps_1 : decode cX12_weeps 1 = .ok (.iconst 0, 1) := by decide +kernel
theorem dX12_weeps_2 : decode cX12_weeps 2 = .ok (.putfield 140, 3) := by decide +kernel
theorem dX12_weeps_5 : decode cX12_weeps 5 = .ok (.aload_n 0, 1) := by decide +kernel
theorem dX12_weeps_6 : decode cX12_weeps 6 = .ok (.iload_n 1, 1) := by decide +kernel
theorem dX12_weeps_7 : decode cX12_weeps 7 = .ok (.invokevirtual 182, 3) := by decide +kernel
theorem dX12_weeps_10 : decode cX12_weeps 10 = .ok (.ifCond .ne 5, 3) := by decide +kernel
theorem dX12_weeps_13 : decode cX12_weeps 13 = .ok (.iconst (-1), 1) := by decide +kernel
theorem dX12_weeps_14 : decode cX12_weeps 14 = .ok (.ireturn, 1) := by decide +kernel
theorem dX12_weeps_15 : decode cX12_weeps 15 = .ok (.aload_n 0, 1) := by decide +kernel
theorem dX12_weeps_16 : decode cX12_weeps 16 = .ok (.invokevirtual 418, 3) := by decide +kernel
theorem dX12_weeps_19 : decode cX12_weeps 19 = .ok (.iconst 0, 1) := by decide +kernel
theorem dX12_weeps_20 : decode cX12_weeps 20 = .ok (.istore_n 2, 1) := by decide +kernel
theorem dX12_weeps_21 : decode cX12_weeps 21 = .ok (.iload_n 2, 1) := by decide +kernel
theorem dX12_weeps_22 : decode cX12_weeps 22 = .ok (.bipush 60, 2) := by decide +kernel
theorem dX12_weeps_24 : decode cX12_weeps 24 = .ok (.if_icmp .gt 27, 3) := by decide +kernel
theorem dX12_weeps_27 : decode cX12_weeps 27 = .ok (.aload_n 0, 1) := by decide +kernel
theorem dX12_weeps_28 : decode cX12_weeps 28 = .ok (.getfield 7, 3) := by decide +kernel
theorem dX12_weeps_31 : decode cX12_weeps 31 = .ok (.bipush 63, 2) := by decide +kernel
theorem dX12_weeps_33 : decode cX12_weeps 33 = .ok (.iload_n 1, 1) := by decide +kernel
theorem dX12_weeps_34 : decode cX12_weeps 34 = .ok (.iadd, 1) := by decide +kernel
theorem dX12_weeps_35 : decode cX12_weeps 35 = .ok (.iaload, 1) := by decide +kernel
theorem dX12_weeps_36 : decode cX12_weeps 36 = .ok (.ifCond .le 15, 3) := by decide +kernel
theorem dX12_weeps_39 : decode cX12_weeps 39 = .ok (.aload_n 0, 1) := by decide +kernel
theorem dX12_weeps_40 : decode cX12_weeps 40 = .ok (.invokevirtual 415, 3) := by decide +kernel
theorem dX12_weeps_43 : decode cX12_weeps 43 = .ok (.pop, 1) := by decide +kernel
theorem dX12_weeps_44 : decode cX12_weeps 44 = .ok (.iload_n 2, 1) := by decide +kernel
theorem dX12_weeps_45 : decode cX12_weeps 45 = .ok (.iconst 1, 1) := by decide +kernel
theorem dX12_weeps_46 : decode cX12_weeps 46 = .ok (.iadd, 1) := by decide +kernel
theorem dX12_weeps_47 : decode cX12_weeps 47 = .ok (.istore_n 2, 1) := by decide +kernel
theorem dX12_weeps_48 : decode cX12_weeps 48 = .ok (.goto (-27), 3) := by decide +kernel
theorem dX12_weeps_51 : decode cX12_weeps 51 = .ok (.aload_n 0, 1) := by decide +kernel
theorem dX12_weeps_52 : decode cX12_weeps 52 = .ok (.invokevirtual 424, 3) := by decide +kernel
theorem dX12_weeps_55 : decode cX12_weeps 55 = .ok (.iload_n 2, 1) := by decide +kernel
theorem dX12_weeps_56 : decode cX12_weeps 56 = .ok (.bipush 60, 2) := by decide +kernel
theorem dX12_weeps_58 : decode cX12_weeps 58 = .ok (.if_icmp .le 7, 3) := by decide +kernel
theorem dX12_weeps_61 : decode cX12_weeps 61 = .ok (.iconst (-1), 1) := by decide +kernel
theorem dX12_weeps_62 : decode cX12_weeps 62 = .ok (.goto 4, 3) := by decide +kernel
theorem dX12_weeps_65 : decode cX12_weeps 65 = .ok (.iload_n 2, 1) := by decide +kernel
theorem dX12_weeps_66 : decode cX12_weeps 66 = .ok (.ireturn, 1) := by decide +kernel
theorem dX12_claims_0 : decode cX12_claims 0 = .ok (.aload_n 0, 1) := by decide +kernel
theorem dX12_claims_1 : decode cX12_claims 1 = .ok (.iconst 0, 1) := by decide +kernel
theorem dX12_claims_2 : decode cX12_claims 2 = .ok (.putfield 140, 3) := by decide +kernel
theorem dX12_claims_5 : decode cX12_claims 5 = .ok (.aload_n 0, 1) := by decide +kernel
theorem dX12_claims_6 : decode cX12_claims 6 = .ok (.iload_n 1, 1) := by decide +kernel
theorem dX12_claims_7 : decode cX12_claims 7 = .ok (.iconst 0, 1) := by decide +kernel
theorem dX12_claims_8 : decode cX12_claims 8 = .ok (.bipush 19, 2) := by decide +kernel
theorem dX12_claims_10 : decode cX12_claims 10 = .ok (.invokevirtual 165, 3) := by decide +kernel
theorem dX12_claims_13 : decode cX12_claims 13 = .ok (.ifCond .ne 5, 3) := by decide +kernel
theorem dX12_claims_16 : decode cX12_claims 16 = .ok (.iconst (-1), 1) := by decide +kernel
theorem dX12_claims_17 : decode cX12_claims 17 = .ok (.ireturn, 1) := by decide +kernel
theorem dX12_claims_18 : decode cX12_claims 18 = .ok (.iconst 0, 1) := by decide +kernel
theorem dX12_claims_19 : decode cX12_claims 19 = .ok (.istore_n 2, 1) := by decide +kernel
theorem dX12_claims_20 : decode cX12_claims 20 = .ok (.iconst 0, 1) := by decide +kernel
theorem dX12_claims_21 : decode cX12_claims 21 = .ok (.istore_n 3, 1) := by decide +kernel
theorem dX12_claims_22 : decode cX12_claims 22 = .ok (.iload_n 3, 1) := by decide +kernel
theorem dX12_claims_23 : decode cX12_claims 23 = .ok (.aload_n 0, 1) := by decide +kernel
theorem dX12_claims_24 : decode cX12_claims 24 = .ok (.getfield 156, 3) := by decide +kernel
theorem dX12_claims_27 : decode cX12_claims 27 = .ok (.if_icmp .ge 39, 3) := by decide +kernel
theorem dX12_claims_30 : decode cX12_claims 30 = .ok (.aload_n 0, 1) := by decide +kernel
theorem dX12_claims_31 : decode cX12_claims 31 = .ok (.getfield 19, 3) := by decide +kernel
theorem dX12_claims_34 : decode cX12_claims 34 = .ok (.iload_n 3, 1) := by decide +kernel
theorem dX12_claims_35 : decode cX12_claims 35 = .ok (.iaload, 1) := by decide +kernel
theorem dX12_claims_36 : decode cX12_claims 36 = .ok (.iload_n 1, 1) := by decide +kernel
theorem dX12_claims_37 : decode cX12_claims 37 = .ok (.if_icmp .ne 23, 3) := by decide +kernel
theorem dX12_claims_40 : decode cX12_claims 40 = .ok (.aload_n 0, 1) := by decide +kernel
theorem dX12_claims_41 : decode cX12_claims 41 = .ok (.iload_n 3, 1) := by decide +kernel
theorem dX12_claims_42 : decode cX12_claims 42 = .ok (.invokevirtual 173, 3) := by decide +kernel
theorem dX12_claims_45 : decode cX12_claims 45 = .ok (.ifCond .ne 15, 3) := by decide +kernel
theorem dX12_claims_48 : decode cX12_claims 48 = .ok (.iload_n 2, 1) := by decide +kernel
theorem dX12_claims_49 : decode cX12_claims 49 = .ok (.aload_n 0, 1) := by decide +kernel
theorem dX12_claims_50 : decode cX12_claims 50 = .ok (.getfield 7, 3) := by decide +kernel
theorem dX12_claims_53 : decode cX12_claims 53 = .ok (.bipush 7, 2) := by decide +kernel
theorem dX12_claims_55 : decode cX12_claims 55 = .ok (.iload_n 3, 1) := by decide +kernel
theorem dX12_claims_56 : decode cX12_claims 56 = .ok (.iadd, 1) := by decide +kernel
theorem dX12_claims_57 : decode cX12_claims 57 = .ok (.iaload, 1) := by decide +kernel
theorem dX12_claims_58 : decode cX12_claims 58 = .ok (.iadd, 1) := by decide +kernel
theorem dX12_claims_59 : decode cX12_claims 59 = .ok (.istore_n 2, 1) := by decide +kernel
theorem dX12_claims_60 : decode cX12_claims 60 = .ok (.iinc 3 1, 3) := by decide +kernel
theorem dX12_claims_63 : decode cX12_claims 63 = .ok (.goto (-41), 3) := by decide +kernel
theorem dX12_claims_66 : decode cX12_claims 66 = .ok (.iload_n 2, 1) := by decide +kernel
theorem dX12_claims_67 : decode cX12_claims 67 = .ok (.ireturn, 1) := by decide +kernel
theorem dX12_thread_0 : decode cX12_thread 0 = .ok (.aload_n 0, 1) := by decide +kernel
theorem dX12_thread_1 : decode cX12_thread 1 = .ok (.iconst 0, 1) := by decide +kernel
theorem dX12_thread_2 : decode cX12_thread 2 = .ok (.putfield 140, 3) := by decide +kernel
theorem dX12_thread_5 : decode cX12_thread 5 = .ok (.iload_n 1, 1) := by decide +kernel
theorem dX12_thread_6 : decode cX12_thread 6 = .ok (.iconst (-1), 1) := by decide +kernel
theorem dX12_thread_7 : decode cX12_thread 7 = .ok (.if_icmp .ne 10, 3) := by decide +kernel
theorem dX12_thread_10 : decode cX12_thread 10 = .ok (.aload_n 0, 1) := by decide +kernel
theorem dX12_thread_11 : decode cX12_thread 11 = .ok (.iconst 0, 1) := by decide +kernel
theorem dX12_thread_12 : decode cX12_thread 12 = .ok (.putfield 427, 3) := by decide +kernel
theorem dX12_thread_15 : decode cX12_thread 15 = .ok (.iconst 0, 1) := by decide +kernel
theorem dX12_thread_16 : decode cX12_thread 16 = .ok (.ireturn, 1) := by decide +kernel
theorem dX12_thread_17 : decode cX12_thread 17 = .ok (.aload_n 0, 1) := by decide +kernel
theorem dX12_thread_18 : decode cX12_thread 18 = .ok (.iload_n 1, 1) := by decide +kernel
theorem dX12_thread_19 : decode cX12_thread 19 = .ok (.iconst 0, 1) := by decide +kernel
theorem dX12_thread_20 : decode cX12_thread 20 = .ok (.iconst 5, 1) := by decide +kernel
theorem dX12_thread_21 : decode cX12_thread 21 = .ok (.invokevirtual 165, 3) := by decide +kernel
theorem dX12_thread_24 : decode cX12_thread 24 = .ok (.ifCond .eq 27, 3) := by decide +kernel
theorem dX12_thread_27 : decode cX12_thread 27 = .ok (.aload_n 0, 1) := by decide +kernel
theorem dX12_thread_28 : decode cX12_thread 28 = .ok (.iload_n 2, 1) := by decide +kernel
theorem dX12_thread_29 : decode cX12_thread 29 = .ok (.iconst 0, 1) := by decide +kernel
theorem dX12_thread_30 : decode cX12_thread 30 = .ok (.iconst 5, 1) := by decide +kernel
theorem dX12_thread_31 : decode cX12_thread 31 = .ok (.invokevirtual 165, 3) := by decide +kernel
theorem dX12_thread_34 : decode cX12_thread 34 = .ok (.ifCond .eq 17, 3) := by decide +kernel
theorem dX12_thread_37 : decode cX12_thread 37 = .ok (.iload_n 1, 1) := by decide +kernel
theorem dX12_thread_38 : decode cX12_thread 38 = .ok (.iload_n 2, 1) := by decide +kernel
theorem dX12_thread_39 : decode cX12_thread 39 = .ok (.if_icmp .eq 12, 3) := by decide +kernel
theorem dX12_thread_42 : decode cX12_thread 42 = .ok (.aload_n 0, 1) := by decide +kernel
theorem dX12_thread_43 : decode cX12_thread 43 = .ok (.getfield 427, 3) := by decide +kernel
theorem dX12_thread_46 : decode cX12_thread 46 = .ok (.bipush 12, 2) := by decide +kernel
theorem dX12_thread_48 : decode cX12_thread 48 = .ok (.if_icmp .ne 5, 3) := by decide +kernel
theorem dX12_thread_51 : decode cX12_thread 51 = .ok (.iconst (-1), 1) := by decide +kernel
theorem dX12_thread_52 : decode cX12_thread 52 = .ok (.ireturn, 1) := by decide +kernel
theorem dX12_thread_53 : decode cX12_thread 53 = .ok (.aload_n 0, 1) := by decide +kernel
theorem dX12_thread_54 : decode cX12_thread 54 = .ok (.getfield 83, 3) := by decide +kernel
theorem dX12_thread_57 : decode cX12_thread 57 = .ok (.aload_n 0, 1) := by decide +kernel
theorem dX12_thread_58 : decode cX12_thread 58 = .ok (.getfield 427, 3) := by decide +kernel
theorem dX12_thread_61 : decode cX12_thread 61 = .ok (.iload_n 1, 1) := by decide +kernel
theorem dX12_thread_62 : decode cX12_thread 62 = .ok (.iastore, 1) := by decide +kernel
theorem dX12_thread_63 : decode cX12_thread 63 = .ok (.aload_n 0, 1) := by decide +kernel
theorem dX12_thread_64 : decode cX12_thread 64 = .ok (.getfield 86, 3) := by decide +kernel
theorem dX12_thread_67 : decode cX12_thread 67 = .ok (.aload_n 0, 1) := by decide +kernel
theorem dX12_thread_68 : decode cX12_thread 68 = .ok (.getfield 427, 3) := by decide +kernel
theorem dX12_thread_71 : decode cX12_thread 71 = .ok (.iload_n 2, 1) := by decide +kernel
theorem dX12_thread_72 : decode cX12_thread 72 = .ok (.iastore, 1) := by decide +kernel
theorem dX12_thread_73 : decode cX12_thread 73 = .ok (.aload_n 0, 1) := by decide +kernel
theorem dX12_thread_74 : decode cX12_thread 74 = .ok (.aload_n 0, 1) := by decide +kernel
theorem dX12_thread_75 : decode cX12_thread 75 = .ok (.getfield 427, 3) := by decide +kernel
theorem dX12_thread_78 : decode cX12_thread 78 = .ok (.iconst 1, 1) := by decide +kernel
theorem dX12_thread_79 : decode cX12_thread 79 = .ok (.iadd, 1) := by decide +kernel
theorem dX12_thread_80 : decode cX12_thread 80 = .ok (.putfield 427, 3) := by decide +kernel
theorem dX12_thread_83 : decode cX12_thread 83 = .ok (.aload_n 0, 1) := by decide +kernel
theorem dX12_thread_84 : decode cX12_thread 84 = .ok (.getfield 427, 3) := by decide +kernel
theorem dX12_thread_87 : decode cX12_thread 87 = .ok (.ireturn, 1) := by decide +kernel
theorem dX12_doHang_0 : decode cX12_doHang 0 = .ok (.iconst 1, 1) := by decide +kernel
theorem dX12_doHang_1 : decode cX12_doHang 1 = .ok (.istore_n 2, 1) := by decide +kernel
theorem dX12_doHang_2 : decode cX12_doHang 2 = .ok (.iconst 0, 1) := by decide +kernel
theorem dX12_doHang_3 : decode cX12_doHang 3 = .ok (.istore_n 3, 1) := by decide +kernel
theorem dX12_doHang_4 : decode cX12_doHang 4 = .ok (.iload_n 3, 1) := by decide +kernel
theorem dX12_doHang_5 : decode cX12_doHang 5 = .ok (.iconst 5, 1) := by decide +kernel
theorem dX12_doHang_6 : decode cX12_doHang 6 = .ok (.if_icmp .ge 70, 3) := by decide +kernel
theorem dX12_doHang_9 : decode cX12_doHang 9 = .ok (.iconst 0, 1) := by decide +kernel
theorem dX12_doHang_10 : decode cX12_doHang 10 = .ok (.istore 4, 2) := by decide +kernel
theorem dX12_doHang_12 : decode cX12_doHang 12 = .ok (.iload 4, 2) := by decide +kernel
theorem dX12_doHang_14 : decode cX12_doHang 14 = .ok (.aload_n 0, 1) := by decide +kernel
theorem dX12_doHang_15 : decode cX12_doHang 15 = .ok (.getfield 427, 3) := by decide +kernel
theorem dX12_doHang_18 : decode cX12_doHang 18 = .ok (.if_icmp .ge 52, 3) := by decide +kernel
theorem dX12_doHang_21 : decode cX12_doHang 21 = .ok (.iconst 1, 1) := by decide +kernel
theorem dX12_doHang_22 : decode cX12_doHang 22 = .ok (.aload_n 0, 1) := by decide +kernel
theorem dX12_doHang_23 : decode cX12_doHang 23 = .ok (.getfield 83, 3) := by decide +kernel
theorem dX12_doHang_26 : decode cX12_doHang 26 = .ok (.iload 4, 2) := by decide +kernel
theorem dX12_doHang_28 : decode cX12_doHang 28 = .ok (.iaload, 1) := by decide +kernel
theorem dX12_doHang_29 : decode cX12_doHang 29 = .ok (.ishl, 1) := by decide +kernel
theorem dX12_doHang_30 : decode cX12_doHang 30 = .ok (.iconst 1, 1) := by decide +kernel
theorem dX12_doHang_31 : decode cX12_doHang 31 = .ok (.aload_n 0, 1) := by decide +kernel
theorem dX12_doHang_32 : decode cX12_doHang 32 = .ok (.getfield 86, 3) := by decide +kernel
theorem dX12_doHang_35 : decode cX12_doHang 35 = .ok (.iload 4, 2) := by decide +kernel
theorem dX12_doHang_37 : decode cX12_doHang 37 = .ok (.iaload, 1) := by decide +kernel
theorem dX12_doHang_38 : decode cX12_doHang 38 = .ok (.ishl, 1) := by decide +kernel
theorem dX12_doHang_39 : decode cX12_doHang 39 = .ok (.ior, 1) := by decide +kernel
theorem dX12_doHang_40 : decode cX12_doHang 40 = .ok (.istore 5, 2) := by decide +kernel
theorem dX12_doHang_42 : decode cX12_doHang 42 = .ok (.aload_n 0, 1) := by decide +kernel
theorem dX12_doHang_43 : decode cX12_doHang 43 = .ok (.iload_n 1, 1) := by decide +kernel
theorem dX12_doHang_44 : decode cX12_doHang 44 = .ok (.iload 4, 2) := by decide +kernel
theorem dX12_doHang_46 : decode cX12_doHang 46 = .ok (.invokevirtual 372, 3) := by decide +kernel
theorem dX12_doHang_49 : decode cX12_doHang 49 = .ok (.ifCond .eq 15, 3) := by decide +kernel
theorem dX12_doHang_52 : decode cX12_doHang 52 = .ok (.iload_n 2, 1) := by decide +kernel
theorem dX12_doHang_53 : decode cX12_doHang 53 = .ok (.iload 5, 2) := by decide +kernel
theorem dX12_doHang_55 : decode cX12_doHang 55 = .ok (.iand, 1) := by decide +kernel
theorem dX12_doHang_56 : decode cX12_doHang 56 = .ok (.ifCond .eq 8, 3) := by decide +kernel
theorem dX12_doHang_59 : decode cX12_doHang 59 = .ok (.iload_n 2, 1) := by decide +kernel
theorem dX12_doHang_60 : decode cX12_doHang 60 = .ok (.iload 5, 2) := by decide +kernel
theorem dX12_doHang_62 : decode cX12_doHang 62 = .ok (.ior, 1) := by decide +kernel
theorem dX12_doHang_63 : decode cX12_doHang 63 = .ok (.istore_n 2, 1) := by decide +kernel
theorem dX12_doHang_64 : decode cX12_doHang 64 = .ok (.iinc 4 1, 3) := by decide +kernel
theorem dX12_doHang_67 : decode cX12_doHang 67 = .ok (.goto (-55), 3) := by decide +kernel
theorem dX12_doHang_70 : decode cX12_doHang 70 = .ok (.iinc 3 1, 3) := by decide +kernel
theorem dX12_doHang_73 : decode cX12_doHang 73 = .ok (.goto (-69), 3) := by decide +kernel
theorem dX12_doHang_76 : decode cX12_doHang 76 = .ok (.iload_n 2, 1) := by decide +kernel
theorem dX12_doHang_77 : decode cX12_doHang 77 = .ok (.bipush 63, 2) := by decide +kernel
theorem dX12_doHang_79 : decode cX12_doHang 79 = .ok (.if_icmp .ne 7, 3) := by decide +kernel
theorem dX12_doHang_82 : decode cX12_doHang 82 = .ok (.iconst 1, 1) := by decide +kernel
theorem dX12_doHang_83 : decode cX12_doHang 83 = .ok (.goto 4, 3) := by decide +kernel
theorem dX12_doHang_86 : decode cX12_doHang 86 = .ok (.iconst 0, 1) := by decide +kernel
theorem dX12_doHang_87 : decode cX12_doHang 87 = .ok (.ireturn, 1) := by decide +kernel
theorem dX12_hangs_0 : decode cX12_hangs 0 = .ok (.aload_n 0, 1) := by decide +kernel
theorem dX12_hangs_1 : decode cX12_hangs 1 = .ok (.iconst 0, 1) := by decide +kernel
theorem dX12_hangs_2 : decode cX12_hangs 2 = .ok (.putfield 140, 3) := by decide +kernel
theorem dX12_hangs_5 : decode cX12_hangs 5 = .ok (.iconst 0, 1) := by decide +kernel
theorem dX12_hangs_6 : decode cX12_hangs 6 = .ok (.istore_n 1, 1) := by decide +kernel
theorem dX12_hangs_7 : decode cX12_hangs 7 = .ok (.iconst 0, 1) := by decide +kernel
theorem dX12_hangs_8 : decode cX12_hangs 8 = .ok (.istore_n 2, 1) := by decide +kernel
theorem dX12_hangs_9 : decode cX12_hangs 9 = .ok (.iload_n 2, 1) := by decide +kernel
theorem dX12_hangs_10 : decode cX12_hangs 10 = .ok (.iconst 1, 1) := by decide +kernel
theorem dX12_hangs_11 : decode cX12_hangs 11 = .ok (.aload_n 0, 1) := by decide +kernel
theorem dX12_hangs_12 : decode cX12_hangs 12 = .ok (.getfield 427, 3) := by decide +kernel
theorem dX12_hangs_15 : decode cX12_hangs 15 = .ok (.ishl, 1) := by decide +kernel
theorem dX12_hangs_16 : decode cX12_hangs 16 = .ok (.if_icmp .ge 30, 3) := by decide +kernel
theorem dX12_hangs_19 : decode cX12_hangs 19 = .ok (.aload_n 0, 1) := by decide +kernel
theorem dX12_hangs_20 : decode cX12_hangs 20 = .ok (.iload_n 2, 1) := by decide +kernel
theorem dX12_hangs_21 : decode cX12_hangs 21 = .ok (.invokevirtual 347, 3) := by decide +kernel
theorem dX12_hangs_24 : decode cX12_hangs 24 = .ok (.iconst 5, 1) := by decide +kernel
theorem dX12_hangs_25 : decode cX12_hangs 25 = .ok (.if_icmp .ne 15, 3) := by decide +kernel
theorem dX12_hangs_28 : decode cX12_hangs 28 = .ok (.aload_n 0, 1) := by decide +kernel
theorem dX12_hangs_29 : decode cX12_hangs 29 = .ok (.iload_n 2, 1) := by decide +kernel
theorem dX12_hangs_30 : decode cX12_hangs 30 = .ok (.invokevirtual 430, 3) := by decide +kernel
theorem dX12_hangs_33 : decode cX12_hangs 33 = .ok (.ifCond .eq 7, 3) := by decide +kernel
theorem dX12_hangs_36 : decode cX12_hangs 36 = .ok (.iload_n 1, 1) := by decide +kernel
theorem dX12_hangs_37 : decode cX12_hangs 37 = .ok (.iconst 1, 1) := by decide +kernel
theorem dX12_hangs_38 : decode cX12_hangs 38 = .ok (.iadd, 1) := by decide +kernel
theorem dX12_hangs_39 : decode cX12_hangs 39 = .ok (.istore_n 1, 1) := by decide +kernel
theorem dX12_hangs_40 : decode cX12_hangs 40 = .ok (.iinc 2 1, 3) := by decide +kernel
theorem dX12_hangs_43 : decode cX12_hangs 43 = .ok (.goto (-34), 3) := by decide +kernel
theorem dX12_hangs_46 : decode cX12_hangs 46 = .ok (.iload_n 1, 1) := by decide +kernel
theorem dX12_hangs_47 : decode cX12_hangs 47 = .ok (.ireturn, 1) := by decide +kernel
theorem dX12_cell_0 : decode cX12_cell 0 = .ok (.aload_n 0, 1) := by decide +kernel
theorem dX12_cell_1 : decode cX12_cell 1 = .ok (.iconst 0, 1) := by decide +kernel
theorem dX12_cell_2 : decode cX12_cell 2 = .ok (.putfield 140, 3) := by decide +kernel
theorem dX12_cell_5 : decode cX12_cell 5 = .ok (.aload_n 0, 1) := by decide +kernel
theorem dX12_cell_6 : decode cX12_cell 6 = .ok (.iload_n 1, 1) := by decide +kernel
theorem dX12_cell_7 : decode cX12_cell 7 = .ok (.iconst 0, 1) := by decide +kernel
theorem dX12_cell_8 : decode cX12_cell 8 = .ok (.bipush 8, 2) := by decide +kernel
theorem dX12_cell_10 : decode cX12_cell 10 = .ok (.invokevirtual 165, 3) := by decide +kernel
theorem dX12_cell_13 : decode cX12_cell 13 = .ok (.ifCond .eq 15, 3) := by decide +kernel
theorem dX12_cell_16 : decode cX12_cell 16 = .ok (.aload_n 0, 1) := by decide +kernel
theorem dX12_cell_17 : decode cX12_cell 17 = .ok (.iload_n 2, 1) := by decide +kernel
theorem dX12_cell_18 : decode cX12_cell 18 = .ok (.bipush (-9), 2) := by decide +kernel
theorem dX12_cell_20 : decode cX12_cell 20 = .ok (.bipush 9, 2) := by decide +kernel
theorem dX12_cell_22 : decode cX12_cell 22 = .ok (.invokevirtual 165, 3) := by decide +kernel
theorem dX12_cell_25 : decode cX12_cell 25 = .ok (.ifCond .ne 5, 3) := by decide +kernel
theorem dX12_cell_28 : decode cX12_cell 28 = .ok (.iconst 0, 1) := by decide +kernel
theorem dX12_cell_29 : decode cX12_cell 29 = .ok (.ireturn, 1) := by decide +kernel
theorem dX12_cell_30 : decode cX12_cell 30 = .ok (.aload_n 0, 1) := by decide +kernel
theorem dX12_cell_31 : decode cX12_cell 31 = .ok (.getfield 89, 3) := by decide +kernel
theorem dX12_cell_34 : decode cX12_cell 34 = .ok (.iload_n 1, 1) := by decide +kernel
theorem dX12_cell_35 : decode cX12_cell 35 = .ok (.iload_n 2, 1) := by decide +kernel
theorem dX12_cell_36 : decode cX12_cell 36 = .ok (.iastore, 1) := by decide +kernel
theorem dX12_cell_37 : decode cX12_cell 37 = .ok (.iconst 1, 1) := by decide +kernel
theorem dX12_cell_38 : decode cX12_cell 38 = .ok (.ireturn, 1) := by decide +kernel
theorem dX12_determinant_0 : decode cX12_determinant 0 = .ok (.aload_n 0, 1) := by decide +kernel
theorem dX12_determinant_1 : decode cX12_determinant 1 = .ok (.iconst 0, 1) := by decide +kernel
theorem dX12_determinant_2 : decode cX12_determinant 2 = .ok (.putfield 140, 3) := by decide +kernel
theorem dX12_determinant_5 : decode cX12_determinant 5 = .ok (.iconst 0, 1) := by decide +kernel
theorem dX12_determinant_6 : decode cX12_determinant 6 = .ok (.istore_n 1, 1) := by decide +kernel
theorem dX12_determinant_7 : decode cX12_determinant 7 = .ok (.iconst 0, 1) := by decide +kernel
theorem dX12_determinant_8 : decode cX12_determinant 8 = .ok (.istore_n 2, 1) := by decide +kernel
theorem dX12_determinant_9 : decode cX12_determinant 9 = .ok (.iload_n 2, 1) := by decide +kernel
theorem dX12_determinant_10 : decode cX12_determinant 10 = .ok (.iconst 3, 1) := by decide +kernel
theorem dX12_determinant_11 : decode cX12_determinant 11 = .ok (.if_icmp .ge 72, 3) := by decide +kernel
theorem dX12_determinant_14 : decode cX12_determinant 14 = .ok (.iload_n 1, 1) := by decide +kernel
theorem dX12_determinant_15 : decode cX12_determinant 15 = .ok (.aload_n 0, 1) := by decide +kernel
theorem dX12_determinant_16 : decode cX12_determinant 16 = .ok (.getfield 89, 3) := by decide +kernel
theorem dX12_determinant_19 : decode cX12_determinant 19 = .ok (.iload_n 2, 1) := by decide +kernel
theorem dX12_determinant_20 : decode cX12_determinant 20 = .ok (.iaload, 1) := by decide +kernel
theorem dX12_determinant_21 : decode cX12_determinant 21 = .ok (.aload_n 0, 1) := by decide +kernel
theorem dX12_determinant_22 : decode cX12_determinant 22 = .ok (.getfield 89, 3) := by decide +kernel
theorem dX12_determinant_25 : decode cX12_determinant 25 = .ok (.iconst 3, 1) := by decide +kernel
theorem dX12_determinant_26 : decode cX12_determinant 26 = .ok (.iload_n 2, 1) := by decide +kernel
theorem dX12_determinant_27 : decode cX12_determinant 27 = .ok (.iconst 1, 1) := by decide +kernel
theorem dX12_determinant_28 : decode cX12_determinant 28 = .ok (.iadd, 1) := by decide +kernel
theorem dX12_determinant_29 : decode cX12_determinant 29 = .ok (.iconst 3, 1) := by decide +kernel
theorem dX12_determinant_30 : decode cX12_determinant 30 = .ok (.irem, 1) := by decide +kernel
theorem dX12_determinant_31 : decode cX12_determinant 31 = .ok (.iadd, 1) := by decide +kernel
theorem dX12_determinant_32 : decode cX12_determinant 32 = .ok (.iaload, 1) := by decide +kernel
theorem dX12_determinant_33 : decode cX12_determinant 33 = .ok (.aload_n 0, 1) := by decide +kernel
theorem dX12_determinant_34 : decode cX12_determinant 34 = .ok (.getfield 89, 3) := by decide +kernel
theorem dX12_determinant_37 : decode cX12_determinant 37 = .ok (.bipush 6, 2) := by decide +kernel
theorem dX12_determinant_39 : decode cX12_determinant 39 = .ok (.iload_n 2, 1) := by decide +kernel
theorem dX12_determinant_40 : decode cX12_determinant 40 = .ok (.iconst 2, 1) := by decide +kernel
theorem dX12_determinant_41 : decode cX12_determinant 41 = .ok (.iadd, 1) := by decide +kernel
theorem dX12_determinant_42 : decode cX12_determinant 42 = .ok (.iconst 3, 1) := by decide +kernel
theorem dX12_determinant_43 : decode cX12_determinant 43 = .ok (.irem, 1) := by decide +kernel
theorem dX12_determinant_44 : decode cX12_determinant 44 = .ok (.iadd, 1) := by decide +kernel
theorem dX12_determinant_45 : decode cX12_determinant 45 = .ok (.iaload, 1) := by decide +kernel
theorem dX12_determinant_46 : decode cX12_determinant 46 = .ok (.imul, 1) := by decide +kernel
theorem dX12_determinant_47 : decode cX12_determinant 47 = .ok (.aload_n 0, 1) := by decide +kernel
theorem dX12_determinant_48 : decode cX12_determinant 48 = .ok (.getfield 89, 3) := by decide +kernel
theorem dX12_determinant_51 : decode cX12_determinant 51 = .ok (.iconst 3, 1) := by decide +kernel
theorem dX12_determinant_52 : decode cX12_determinant 52 = .ok (.iload_n 2, 1) := by decide +kernel
theorem dX12_determinant_53 : decode cX12_determinant 53 = .ok (.iconst 2, 1) := by decide +kernel
theorem dX12_determinant_54 : decode cX12_determinant 54 = .ok (.iadd, 1) := by decide +kernel
theorem dX12_determinant_55 : decode cX12_determinant 55 = .ok (.iconst 3, 1) := by decide +kernel
theorem dX12_determinant_56 : decode cX12_determinant 56 = .ok (.irem, 1) := by decide +kernel
theorem dX12_determinant_57 : decode cX12_determinant 57 = .ok (.iadd, 1) := by decide +kernel
theorem dX12_determinant_58 : decode cX12_determinant 58 = .ok (.iaload, 1) := by decide +kernel
theorem dX12_determinant_59 : decode cX12_determinant 59 = .ok (.aload_n 0, 1) := by decide +kernel
theorem dX12_determinant_60 : decode cX12_determinant 60 = .ok (.getfield 89, 3) := by decide +kernel
theorem dX12_determinant_63 : decode cX12_determinant 63 = .ok (.bipush 6, 2) := by decide +kernel
theorem dX12_determinant_65 : decode cX12_determinant 65 = .ok (.iload_n 2, 1) := by decide +kernel
theorem dX12_determinant_66 : decode cX12_determinant 66 = .ok (.iconst 1, 1) := by decide +kernel
theorem dX12_determinant_67 : decode cX12_determinant 67 = .ok (.iadd, 1) := by decide +kernel
theorem dX12_determinant_68 : decode cX12_determinant 68 = .ok (.iconst 3, 1) := by decide +kernel
theorem dX12_determinant_69 : decode cX12_determinant 69 = .ok (.irem, 1) := by decide +kernel
theorem dX12_determinant_70 : decode cX12_determinant 70 = .ok (.iadd, 1) := by decide +kernel
theorem dX12_determinant_71 : decode cX12_determinant 71 = .ok (.iaload, 1) := by decide +kernel
theorem dX12_determinant_72 : decode cX12_determinant 72 = .ok (.imul, 1) := by decide +kernel
theorem dX12_determinant_73 : decode cX12_determinant 73 = .ok (.isub, 1) := by decide +kernel
theorem dX12_determinant_74 : decode cX12_determinant 74 = .ok (.imul, 1) := by decide +kernel
theorem dX12_determinant_75 : decode cX12_determinant 75 = .ok (.iadd, 1) := by decide +kernel
theorem dX12_determinant_76 : decode cX12_determinant 76 = .ok (.istore_n 1, 1) := by decide +kernel
theorem dX12_determinant_77 : decode cX12_determinant 77 = .ok (.iinc 2 1, 3) := by decide +kernel
theorem dX12_determinant_80 : decode cX12_determinant 80 = .ok (.goto (-71), 3) := by decide +kernel
theorem dX12_determinant_83 : decode cX12_determinant 83 = .ok (.iload_n 1, 1) := by decide +kernel
theorem dX12_determinant_84 : decode cX12_determinant 84 = .ok (.ireturn, 1) := by decide +kernel
theorem dX12_mark_0 : decode cX12_mark 0 = .ok (.aload_n 0, 1) := by decide +kernel
theorem dX12_mark_1 : decode cX12_mark 1 = .ok (.iconst 0, 1) := by decide +kernel
theorem dX12_mark_2 : decode cX12_mark 2 = .ok (.putfield 140, 3) := by decide +kernel
theorem dX12_mark_5 : decode cX12_mark 5 = .ok (.iload_n 1, 1) := by decide +kernel
theorem dX12_mark_6 : decode cX12_mark 6 = .ok (.iconst (-1), 1) := by decide +kernel
theorem dX12_mark_7 : decode cX12_mark 7 = .ok (.if_icmp .ne 10, 3) := by decide +kernel
theorem dX12_mark_10 : decode cX12_mark 10 = .ok (.aload_n 0, 1) := by decide +kernel
theorem dX12_mark_11 : decode cX12_mark 11 = .ok (.iconst 0, 1) := by decide +kernel
theorem dX12_mark_12 : decode cX12_mark 12 = .ok (.putfield 433, 3) := by decide +kernel
theorem dX12_mark_15 : decode cX12_mark 15 = .ok (.iconst 0, 1) := by decide +kernel
theorem dX12_mark_16 : decode cX12_mark 16 = .ok (.ireturn, 1) := by decide +kernel
theorem dX12_mark_17 : decode cX12_mark 17 = .ok (.aload_n 0, 1) := by decide +kernel
theorem dX12_mark_18 : decode cX12_mark 18 = .ok (.iload_n 1, 1) := by decide +kernel
theorem dX12_mark_19 : decode cX12_mark 19 = .ok (.iconst 0, 1) := by decide +kernel
theorem dX12_mark_20 : decode cX12_mark 20 = .ok (.bipush 99, 2) := by decide +kernel
theorem dX12_mark_22 : decode cX12_mark 22 = .ok (.invokevirtual 165, 3) := by decide +kernel
theorem dX12_mark_25 : decode cX12_mark 25 = .ok (.ifCond .eq 24, 3) := by decide +kernel
theorem dX12_mark_28 : decode cX12_mark 28 = .ok (.aload_n 0, 1) := by decide +kernel
theorem dX12_mark_29 : decode cX12_mark 29 = .ok (.iload_n 2, 1) := by decide +kernel
theorem dX12_mark_30 : decode cX12_mark 30 = .ok (.bipush (-99), 2) := by decide +kernel
theorem dX12_mark_32 : decode cX12_mark 32 = .ok (.bipush 99, 2) := by decide +kernel
theorem dX12_mark_34 : decode cX12_mark 34 = .ok (.invokevirtual 165, 3) := by decide +kernel
theorem dX12_mark_37 : decode cX12_mark 37 = .ok (.ifCond .eq 12, 3) := by decide +kernel
theorem dX12_mark_40 : decode cX12_mark 40 = .ok (.aload_n 0, 1) := by decide +kernel
theorem dX12_mark_41 : decode cX12_mark 41 = .ok (.getfield 433, 3) := by decide +kernel
theorem dX12_mark_44 : decode cX12_mark 44 = .ok (.bipush 8, 2) := by decide +kernel
theorem dX12_mark_46 : decode cX12_mark 46 = .ok (.if_icmp .ne 5, 3) := by decide +kernel
theorem dX12_mark_49 : decode cX12_mark 49 = .ok (.iconst (-1), 1) := by decide +kernel
theorem dX12_mark_50 : decode cX12_mark 50 = .ok (.ireturn, 1) := by decide +kernel
theorem dX12_mark_51 : decode cX12_mark 51 = .ok (.iconst 0, 1) := by decide +kernel
theorem dX12_mark_52 : decode cX12_mark 52 = .ok (.istore_n 3, 1) := by decide +kernel
theorem dX12_mark_53 : decode cX12_mark 53 = .ok (.iload_n 3, 1) := by decide +kernel
theorem dX12_mark_54 : decode cX12_mark 54 = .ok (.aload_n 0, 1) := by decide +kernel
theorem dX12_mark_55 : decode cX12_mark 55 = .ok (.getfield 433, 3) := by decide +kernel
theorem dX12_mark_58 : decode cX12_mark 58 = .ok (.if_icmp .ge 21, 3) := by decide +kernel
theorem dX12_mark_61 : decode cX12_mark 61 = .ok (.aload_n 0, 1) := by decide +kernel
theorem dX12_mark_62 : decode cX12_mark 62 = .ok (.getfield 92, 3) := by decide +kernel
theorem dX12_mark_65 : decode cX12_mark 65 = .ok (.iload_n 3, 1) := by decide +kernel
theorem dX12_mark_66 : decode cX12_mark 66 = .ok (.iaload, 1) := by decide +kernel
theorem dX12_mark_67 : decode cX12_mark 67 = .ok (.iload_n 1, 1) := by decide +kernel
theorem dX12_mark_68 : decode cX12_mark 68 = .ok (.if_icmp .ne 5, 3) := by decide +kernel
theorem dX12_mark_71 : decode cX12_mark 71 = .ok (.iconst (-1), 1) := by decide +kernel
theorem dX12_mark_72 : decode cX12_mark 72 = .ok (.ireturn, 1) := by decide +kernel
theorem dX12_mark_73 : decode cX12_mark 73 = .ok (.iinc 3 1, 3) := by decide +kernel
theorem dX12_mark_76 : decode cX12_mark 76 = .ok (.goto (-23), 3) := by decide +kernel
theorem dX12_mark_79 : decode cX12_mark 79 = .ok (.aload_n 0, 1) := by decide +kernel
theorem dX12_mark_80 : decode cX12_mark 80 = .ok (.getfield 92, 3) := by decide +kernel
theorem dX12_mark_83 : decode cX12_mark 83 = .ok (.aload_n 0, 1) := by decide +kernel
theorem dX12_mark_84 : decode cX12_mark 84 = .ok (.getfield 433, 3) := by decide +kernel
theorem dX12_mark_87 : decode cX12_mark 87 = .ok (.iload_n 1, 1) := by decide +kernel
theorem dX12_mark_88 : decode cX12_mark 88 = .ok (.iastore, 1) := by decide +kernel
theorem dX12_mark_89 : decode cX12_mark 89 = .ok (.aload_n 0, 1) := by decide +kernel
theorem dX12_mark_90 : decode cX12_mark 90 = .ok (.getfield 95, 3) := by decide +kernel
theorem dX12_mark_93 : decode cX12_mark 93 = .ok (.aload_n 0, 1) := by decide +kernel
theorem dX12_mark_94 : decode cX12_mark 94 = .ok (.getfield 433, 3) := by decide +kernel
theorem dX12_mark_97 : decode cX12_mark 97 = .ok (.iload_n 2, 1) := by decide +kernel
theorem dX12_mark_98 : decode cX12_mark 98 = .ok (.iastore, 1) := by decide +kernel
theorem dX12_mark_99 : decode cX12_mark 99 = .ok (.aload_n 0, 1) := by decide +kernel
theorem dX12_mark_100 : decode cX12_mark 100 = .ok (.aload_n 0, 1) := by decide +kernel
theorem dX12_mark_101 : decode cX12_mark 101 = .ok (.getfield 433, 3) := by decide +kernel
theorem dX12_mark_104 : decode cX12_mark 104 = .ok (.iconst 1, 1) := by decide +kernel
theorem dX12_mark_105 : decode cX12_mark 105 = .ok (.iadd, 1) := by decide +kernel
theorem dX12_mark_106 : decode cX12_mark 106 = .ok (.putfield 433, 3) := by decide +kernel
theorem dX12_mark_109 : decode cX12_mark 109 = .ok (.aload_n 0, 1) := by decide +kernel
theorem dX12_mark_110 : decode cX12_mark 110 = .ok (.getfield 433, 3) := by decide +kernel
theorem dX12_mark_113 : decode cX12_mark 113 = .ok (.ireturn, 1) := by decide +kernel
theorem dX12_marks_0 : decode cX12_marks 0 = .ok (.aload_n 0, 1) := by decide +kernel
theorem dX12_marks_1 : decode cX12_marks 1 = .ok (.iconst 0, 1) := by decide +kernel
theorem dX12_marks_2 : decode cX12_marks 2 = .ok (.putfield 140, 3) := by decide +kernel
theorem dX12_marks_5 : decode cX12_marks 5 = .ok (.aload_n 0, 1) := by decide +kernel
theorem dX12_marks_6 : decode cX12_marks 6 = .ok (.iload_n 1, 1) := by decide +kernel
theorem dX12_marks_7 : decode cX12_marks 7 = .ok (.iconst 0, 1) := by decide +kernel
theorem dX12_marks_8 : decode cX12_marks 8 = .ok (.bipush 99, 2) := by decide +kernel
theorem dX12_marks_10 : decode cX12_marks 10 = .ok (.invokevirtual 165, 3) := by decide +kernel
theorem dX12_marks_13 : decode cX12_marks 13 = .ok (.ifCond .eq 13, 3) := by decide +kernel
theorem dX12_marks_16 : decode cX12_marks 16 = .ok (.aload_n 0, 1) := by decide +kernel
theorem dX12_marks_17 : decode cX12_marks 17 = .ok (.iload_n 2, 1) := by decide +kernel
theorem dX12_marks_18 : decode cX12_marks 18 = .ok (.iconst 0, 1) := by decide +kernel
theorem dX12_marks_19 : decode cX12_marks 19 = .ok (.iconst 1, 1) := by decide +kernel
theorem dX12_marks_20 : decode cX12_marks 20 = .ok (.invokevirtual 165, 3) := by decide +kernel
theorem dX12_marks_23 : decode cX12_marks 23 = .ok (.ifCond .ne 6, 3) := by decide +kernel
theorem dX12_marks_26 : decode cX12_marks 26 = .ok (.bipush (-100), 2) := by decide +kernel
theorem dX12_marks_28 : decode cX12_marks 28 = .ok (.ireturn, 1) := by decide +kernel
theorem dX12_marks_29 : decode cX12_marks 29 = .ok (.iconst (-1), 1) := by decide +kernel
theorem dX12_marks_30 : decode cX12_marks 30 = .ok (.istore_n 3, 1) := by decide +kernel
theorem dX12_marks_31 : decode cX12_marks 31 = .ok (.iconst (-1), 1) := by decide +kernel
theorem dX12_marks_32 : decode cX12_marks 32 = .ok (.istore 4, 2) := by decide +kernel
theorem dX12_marks_34 : decode cX12_marks 34 = .ok (.iconst 0, 1) := by decide +kernel
theorem dX12_marks_35 : decode cX12_marks 35 = .ok (.istore 5, 2) := by decide +kernel
theorem dX12_marks_37 : decode cX12_marks 37 = .ok (.iload 5, 2) := by decide +kernel
theorem dX12_marks_39 : decode cX12_marks 39 = .ok (.aload_n 0, 1) := by decide +kernel
theorem dX12_marks_40 : decode cX12_marks 40 = .ok (.getfield 433, 3) := by decide +kernel
theorem dX12_marks_43 : decode cX12_marks 43 = .ok (.if_icmp .ge 82, 3) := by decide +kernel
theorem dX12_marks_46 : decode cX12_marks 46 = .ok (.aload_n 0, 1) := by decide +kernel
theorem dX12_marks_47 : decode cX12_marks 47 = .ok (.getfield 92, 3) := by decide +kernel
theorem dX12_marks_50 : decode cX12_marks 50 = .ok (.iload 5, 2) := by decide +kernel
theorem dX12_marks_52 : decode cX12_marks 52 = .ok (.iaload, 1) := by decide +kernel
theorem dX12_marks_53 : decode cX12_marks 53 = .ok (.iload_n 1, 1) := by decide +kernel
theorem dX12_marks_54 : decode cX12_marks 54 = .ok (.if_icmp .gt 27, 3) := by decide +kernel
theorem dX12_marks_57 : decode cX12_marks 57 = .ok (.iload_n 3, 1) := by decide +kernel
theorem dX12_marks_58 : decode cX12_marks 58 = .ok (.iconst (-1), 1) := by decide +kernel
theorem dX12_marks_59 : decode cX12_marks 59 = .ok (.if_icmp .eq 19, 3) := by decide +kernel
theorem dX12_marks_62 : decode cX12_marks 62 = .ok (.aload_n 0, 1) := by decide +kernel
theorem dX12_marks_63 : decode cX12_marks 63 = .ok (.getfield 92, 3) := by decide +kernel
theorem dX12_marks_66 : decode cX12_marks 66 = .ok (.iload 5, 2) := by decide +kernel
theorem dX12_marks_68 : decode cX12_marks 68 = .ok (.iaload, 1) := by decide +kernel
theorem dX12_marks_69 : decode cX12_marks 69 = .ok (.aload_n 0, 1) := by decide +kernel
theorem dX12_marks_70 : decode cX12_marks 70 = .ok (.getfield 92, 3) := by decide +kernel
theorem dX12_marks_73 : decode cX12_marks 73 = .ok (.iload_n 3, 1) := by decide +kernel
theorem dX12_marks_74 : decode cX12_marks 74 = .ok (.iaload, 1) := by decide +kernel
theorem dX12_marks_75 : decode cX12_marks 75 = .ok (.if_icmp .le 6, 3) := by decide +kernel
theorem dX12_marks_78 : decode cX12_marks 78 = .ok (.iload 5, 2) := by decide +kernel
theorem dX12_marks_80 : decode cX12_marks 80 = .ok (.istore_n 3, 1) := by decide +kernel
theorem dX12_marks_81 : decode cX12_marks 81 = .ok (.aload_n 0, 1) := by decide +kernel
theorem dX12_marks_82 : decode cX12_marks 82 = .ok (.getfield 92, 3) := by decide +kernel
theorem dX12_marks_85 : decode cX12_marks 85 = .ok (.iload 5, 2) := by decide +kernel
theorem dX12_marks_87 : decode cX12_marks 87 = .ok (.iaload, 1) := by decide +kernel
theorem dX12_marks_88 : decode cX12_marks 88 = .ok (.iload_n 1, 1) := by decide +kernel
theorem dX12_marks_89 : decode cX12_marks 89 = .ok (.if_icmp .lt 30, 3) := by decide +kernel
theorem dX12_marks_92 : decode cX12_marks 92 = .ok (.iload 4, 2) := by decide +kernel
theorem dX12_marks_94 : decode cX12_marks 94 = .ok (.iconst (-1), 1) := by decide +kernel
theorem dX12_marks_95 : decode cX12_marks 95 = .ok (.if_icmp .eq 20, 3) := by decide +kernel
theorem dX12_marks_98 : decode cX12_marks 98 = .ok (.aload_n 0, 1) := by decide +kernel
theorem dX12_marks_99 : decode cX12_marks 99 = .ok (.getfield 92, 3) := by decide +kernel
theorem dX12_marks_102 : decode cX12_marks 102 = .ok (.iload 5, 2) := by decide +kernel
theorem dX12_marks_104 : decode cX12_marks 104 = .ok (.iaload, 1) := by decide +kernel
theorem dX12_marks_105 : decode cX12_marks 105 = .ok (.aload_n 0, 1) := by decide +kernel
theorem dX12_marks_106 : decode cX12_marks 106 = .ok (.getfield 92, 3) := by decide +kernel
theorem dX12_marks_109 : decode cX12_marks 109 = .ok (.iload 4, 2) := by decide +kernel
theorem dX12_marks_111 : decode cX12_marks 111 = .ok (.iaload, 1) := by decide +kernel
theorem dX12_marks_112 : decode cX12_marks 112 = .ok (.if_icmp .ge 7, 3) := by decide +kernel
theorem dX12_marks_115 : decode cX12_marks 115 = .ok (.iload 5, 2) := by decide +kernel
theorem dX12_marks_117 : decode cX12_marks 117 = .ok (.istore 4, 2) := by decide +kernel
theorem dX12_marks_119 : decode cX12_marks 119 = .ok (.iinc 5 1, 3) := by decide +kernel
theorem dX12_marks_122 : decode cX12_marks 122 = .ok (.goto (-85), 3) := by decide +kernel
theorem dX12_marks_125 : decode cX12_marks 125 = .ok (.iload_n 3, 1) := by decide +kernel
theorem dX12_marks_126 : decode cX12_marks 126 = .ok (.iconst (-1), 1) := by decide +kernel
theorem dX12_marks_127 : decode cX12_marks 127 = .ok (.if_icmp .eq 9, 3) := by decide +kernel
theorem dX12_marks_130 : decode cX12_marks 130 = .ok (.iload 4, 2) := by decide +kernel
theorem dX12_marks_132 : decode cX12_marks 132 = .ok (.iconst (-1), 1) := by decide +kernel
theorem dX12_marks_133 : decode cX12_marks 133 = .ok (.if_icmp .ne 5, 3) := by decide +kernel
theorem dX12_marks_136 : decode cX12_marks 136 = .ok (.iconst 0, 1) := by decide +kernel
theorem dX12_marks_137 : decode cX12_marks 137 = .ok (.ireturn, 1) := by decide +kernel
theorem dX12_marks_138 : decode cX12_marks 138 = .ok (.iload_n 3, 1) := by decide +kernel
theorem dX12_marks_139 : decode cX12_marks 139 = .ok (.iload 4, 2) := by decide +kernel
theorem dX12_marks_141 : decode cX12_marks 141 = .ok (.if_icmp .ne 18, 3) := by decide +kernel
theorem dX12_marks_144 : decode cX12_marks 144 = .ok (.iload_n 2, 1) := by decide +kernel
theorem dX12_marks_145 : decode cX12_marks 145 = .ok (.ifCond .ne 12, 3) := by decide +kernel
theorem dX12_marks_148 : decode cX12_marks 148 = .ok (.aload_n 0, 1) := by decide +kernel
theorem dX12_marks_149 : decode cX12_marks 149 = .ok (.getfield 95, 3) := by decide +kernel
theorem dX12_marks_152 : decode cX12_marks 152 = .ok (.iload_n 3, 1) := by decide +kernel
theorem dX12_marks_153 : decode cX12_marks 153 = .ok (.iaload, 1) := by decide +kernel
theorem dX12_marks_154 : decode cX12_marks 154 = .ok (.goto 4, 3) := by decide +kernel
theorem dX12_marks_157 : decode cX12_marks 157 = .ok (.iconst 1, 1) := by decide +kernel
theorem dX12_marks_158 : decode cX12_marks 158 = .ok (.ireturn, 1) := by decide +kernel
theorem dX12_marks_159 : decode cX12_marks 159 = .ok (.aload_n 0, 1) := by decide +kernel
theorem dX12_marks_160 : decode cX12_marks 160 = .ok (.getfield 92, 3) := by decide +kernel
theorem dX12_marks_163 : decode cX12_marks 163 = .ok (.iload 4, 2) := by decide +kernel
theorem dX12_marks_165 : decode cX12_marks 165 = .ok (.iaload, 1) := by decide +kernel
theorem dX12_marks_166 : decode cX12_marks 166 = .ok (.aload_n 0, 1) := by decide +kernel
theorem dX12_marks_167 : decode cX12_marks 167 = .ok (.getfield 92, 3) := by decide +kernel
theorem dX12_marks_170 : decode cX12_marks 170 = .ok (.iload_n 3, 1) := by decide +kernel
theorem dX12_marks_171 : decode cX12_marks 171 = .ok (.iaload, 1) := by decide +kernel
theorem dX12_marks_172 : decode cX12_marks 172 = .ok (.isub, 1) := by decide +kernel
theorem dX12_marks_173 : decode cX12_marks 173 = .ok (.istore 5, 2) := by decide +kernel
theorem dX12_marks_175 : decode cX12_marks 175 = .ok (.aload_n 0, 1) := by decide +kernel
theorem dX12_marks_176 : decode cX12_marks 176 = .ok (.getfield 95, 3) := by decide +kernel
theorem dX12_marks_179 : decode cX12_marks 179 = .ok (.iload_n 3, 1) := by decide +kernel
theorem dX12_marks_180 : decode cX12_marks 180 = .ok (.iaload, 1) := by decide +kernel
theorem dX12_marks_181 : decode cX12_marks 181 = .ok (.aload_n 0, 1) := by decide +kernel
theorem dX12_marks_182 : decode cX12_marks 182 = .ok (.getfield 92, 3) := by decide +kernel
theorem dX12_marks_185 : decode cX12_marks 185 = .ok (.iload 4, 2) := by decide +kernel
theorem dX12_marks_187 : decode cX12_marks 187 = .ok (.iaload, 1) := by decide +kernel
theorem dX12_marks_188 : decode cX12_marks 188 = .ok (.iload_n 1, 1) := by decide +kernel
theorem dX12_marks_189 : decode cX12_marks 189 = .ok (.isub, 1) := by decide +kernel
theorem dX12_marks_190 : decode cX12_marks 190 = .ok (.imul, 1) := by decide +kernel
theorem dX12_marks_191 : decode cX12_marks 191 = .ok (.aload_n 0, 1) := by decide +kernel
theorem dX12_marks_192 : decode cX12_marks 192 = .ok (.getfield 95, 3) := by decide +kernel
theorem dX12_marks_195 : decode cX12_marks 195 = .ok (.iload 4, 2) := by decide +kernel
theorem dX12_marks_197 : decode cX12_marks 197 = .ok (.iaload, 1) := by decide +kernel
theorem dX12_marks_198 : decode cX12_marks 198 = .ok (.iload_n 1, 1) := by decide +kernel
theorem dX12_marks_199 : decode cX12_marks 199 = .ok (.aload_n 0, 1) := by decide +kernel
theorem dX12_marks_200 : decode cX12_marks 200 = .ok (.getfield 92, 3) := by decide +kernel
theorem dX12_marks_203 : decode cX12_marks 203 = .ok (.iload_n 3, 1) := by decide +kernel
theorem dX12_marks_204 : decode cX12_marks 204 = .ok (.iaload, 1) := by decide +kernel
theorem dX12_marks_205 : decode cX12_marks 205 = .ok (.isub, 1) := by decide +kernel
theorem dX12_marks_206 : decode cX12_marks 206 = .ok (.imul, 1) := by decide +kernel
theorem dX12_marks_207 : decode cX12_marks 207 = .ok (.iadd, 1) := by decide +kernel
theorem dX12_marks_208 : decode cX12_marks 208 = .ok (.istore 6, 2) := by decide +kernel
theorem dX12_marks_210 : decode cX12_marks 210 = .ok (.aload_n 0, 1) := by decide +kernel
theorem dX12_marks_211 : decode cX12_marks 211 = .ok (.iload 6, 2) := by decide +kernel
theorem dX12_marks_213 : decode cX12_marks 213 = .ok (.iload 5, 2) := by decide +kernel
theorem dX12_marks_215 : decode cX12_marks 215 = .ok (.invokevirtual 436, 3) := by decide +kernel
theorem dX12_marks_218 : decode cX12_marks 218 = .ok (.istore 7, 2) := by decide +kernel
theorem dX12_marks_220 : decode cX12_marks 220 = .ok (.iload_n 2, 1) := by decide +kernel
theorem dX12_marks_221 : decode cX12_marks 221 = .ok (.ifCond .ne 11, 3) := by decide +kernel
theorem dX12_marks_224 : decode cX12_marks 224 = .ok (.iload 6, 2) := by decide +kernel
theorem dX12_marks_226 : decode cX12_marks 226 = .ok (.iload 7, 2) := by decide +kernel
theorem dX12_marks_228 : decode cX12_marks 228 = .ok (.idiv, 1) := by decide +kernel
theorem dX12_marks_229 : decode cX12_marks 229 = .ok (.goto 8, 3) := by decide +kernel
theorem dX12_marks_232 : decode cX12_marks 232 = .ok (.iload 5, 2) := by decide +kernel
theorem dX12_marks_234 : decode cX12_marks 234 = .ok (.iload 7, 2) := by decide +kernel
theorem dX12_marks_236 : decode cX12_marks 236 = .ok (.idiv, 1) := by decide +kernel
theorem dX12_marks_237 : decode cX12_marks 237 = .ok (.ireturn, 1) := by decide +kernel
theorem dX12_chord_0 : decode cX12_chord 0 = .ok (.aload_n 0, 1) := by decide +kernel
theorem dX12_chord_1 : decode cX12_chord 1 = .ok (.iconst 0, 1) := by decide +kernel
theorem dX12_chord_2 : decode cX12_chord 2 = .ok (.putfield 140, 3) := by decide +kernel
theorem dX12_chord_5 : decode cX12_chord 5 = .ok (.iload_n 1, 1) := by decide +kernel
theorem dX12_chord_6 : decode cX12_chord 6 = .ok (.iconst (-1), 1) := by decide +kernel
theorem dX12_chord_7 : decode cX12_chord 7 = .ok (.if_icmp .ne 10, 3) := by decide +kernel
theorem dX12_chord_10 : decode cX12_chord 10 = .ok (.aload_n 0, 1) := by decide +kernel
theorem dX12_chord_11 : decode cX12_chord 11 = .ok (.iconst 0, 1) := by decide +kernel
theorem dX12_chord_12 : decode cX12_chord 12 = .ok (.putfield 439, 3) := by decide +kernel
theorem dX12_chord_15 : decode cX12_chord 15 = .ok (.iconst 0, 1) := by decide +kernel
theorem dX12_chord_16 : decode cX12_chord 16 = .ok (.ireturn, 1) := by decide +kernel
theorem dX12_chord_17 : decode cX12_chord 17 = .ok (.aload_n 0, 1) := by decide +kernel
theorem dX12_chord_18 : decode cX12_chord 18 = .ok (.iload_n 1, 1) := by decide +kernel
theorem dX12_chord_19 : decode cX12_chord 19 = .ok (.iconst 0, 1) := by decide +kernel
theorem dX12_chord_20 : decode cX12_chord 20 = .ok (.bipush 11, 2) := by decide +kernel
theorem dX12_chord_22 : decode cX12_chord 22 = .ok (.invokevirtual 165, 3) := by decide +kernel
theorem dX12_chord_25 : decode cX12_chord 25 = .ok (.ifCond .eq 28, 3) := by decide +kernel
theorem dX12_chord_28 : decode cX12_chord 28 = .ok (.aload_n 0, 1) := by decide +kernel
theorem dX12_chord_29 : decode cX12_chord 29 = .ok (.iload_n 2, 1) := by decide +kernel
theorem dX12_chord_30 : decode cX12_chord 30 = .ok (.iconst 0, 1) := by decide +kernel
theorem dX12_chord_31 : decode cX12_chord 31 = .ok (.bipush 11, 2) := by decide +kernel
theorem dX12_chord_33 : decode cX12_chord 33 = .ok (.invokevirtual 165, 3) := by decide +kernel
theorem dX12_chord_36 : decode cX12_chord 36 = .ok (.ifCond .eq 17, 3) := by decide +kernel
theorem dX12_chord_39 : decode cX12_chord 39 = .ok (.iload_n 1, 1) := by decide +kernel
theorem dX12_chord_40 : decode cX12_chord 40 = .ok (.iload_n 2, 1) := by decide +kernel
theorem dX12_chord_41 : decode cX12_chord 41 = .ok (.if_icmp .eq 12, 3) := by decide +kernel
theorem dX12_chord_44 : decode cX12_chord 44 = .ok (.aload_n 0, 1) := by decide +kernel
theorem dX12_chord_45 : decode cX12_chord 45 = .ok (.getfield 439, 3) := by decide +kernel
theorem dX12_chord_48 : decode cX12_chord 48 = .ok (.bipush 6, 2) := by decide +kernel
theorem dX12_chord_50 : decode cX12_chord 50 = .ok (.if_icmp .ne 5, 3) := by decide +kernel
theorem dX12_chord_53 : decode cX12_chord 53 = .ok (.iconst (-1), 1) := by decide +kernel
theorem dX12_chord_54 : decode cX12_chord 54 = .ok (.ireturn, 1) := by decide +kernel
theorem dX12_chord_55 : decode cX12_chord 55 = .ok (.iconst 0, 1) := by decide +kernel
theorem dX12_chord_56 : decode cX12_chord 56 = .ok (.istore_n 3, 1) := by decide +kernel
theorem dX12_chord_57 : decode cX12_chord 57 = .ok (.iload_n 3, 1) := by decide +kernel
theorem dX12_chord_58 : decode cX12_chord 58 = .ok (.aload_n 0, 1) := by decide +kernel
theorem dX12_chord_59 : decode cX12_chord 59 = .ok (.getfield 439, 3) := by decide +kernel
theorem dX12_chord_62 : decode cX12_chord 62 = .ok (.if_icmp .ge 51, 3) := by decide +kernel
theorem dX12_chord_65 : decode cX12_chord 65 = .ok (.aload_n 0, 1) := by decide +kernel
theorem dX12_chord_66 : decode cX12_chord 66 = .ok (.getfield 98, 3) := by decide +kernel
theorem dX12_chord_69 : decode cX12_chord 69 = .ok (.iload_n 3, 1) := by decide +kernel
theorem dX12_chord_70 : decode cX12_chord 70 = .ok (.iaload, 1) := by decide +kernel
theorem dX12_chord_71 : decode cX12_chord 71 = .ok (.iload_n 1, 1) := by decide +kernel
theorem dX12_chord_72 : decode cX12_chord 72 = .ok (.if_icmp .eq 33, 3) := by decide +kernel
theorem dX12_chord_75 : decode cX12_chord 75 = .ok (.aload_n 0, 1) := by decide +kernel
theorem dX12_chord_76 : decode cX12_chord 76 = .ok (.getfield 98, 3) := by decide +kernel
theorem dX12_chord_79 : decode cX12_chord 79 = .ok (.iload_n 3, 1) := by decide +kernel
theorem dX12_chord_80 : decode cX12_chord 80 = .ok (.iaload, 1) := by decide +kernel
theorem dX12_chord_81 : decode cX12_chord 81 = .ok (.iload_n 2, 1) := by decide +kernel
theorem dX12_chord_82 : decode cX12_chord 82 = .ok (.if_icmp .eq 23, 3) := by decide +kernel
theorem dX12_chord_85 : decode cX12_chord 85 = .ok (.aload_n 0, 1) := by decide +kernel
theorem dX12_chord_86 : decode cX12_chord 86 = .ok (.getfield 101, 3) := by decide +kernel
theorem dX12_chord_89 : decode cX12_chord 89 = .ok (.iload_n 3, 1) := by decide +kernel
theorem dX12_chord_90 : decode cX12_chord 90 = .ok (.iaload, 1) := by decide +kernel
theorem dX12_chord_91 : decode cX12_chord 91 = .ok (.iload_n 1, 1) := by decide +kernel
theorem dX12_chord_92 : decode cX12_chord 92 = .ok (.if_icmp .eq 13, 3) := by decide +kernel
theorem dX12_chord_95 : decode cX12_chord 95 = .ok (.aload_n 0, 1) := by decide +kernel
theorem dX12_chord_96 : decode cX12_chord 96 = .ok (.getfield 101, 3) := by decide +kernel
theorem dX12_chord_99 : decode cX12_chord 99 = .ok (.iload_n 3, 1) := by decide +kernel
theorem dX12_chord_100 : decode cX12_chord 100 = .ok (.iaload, 1) := by decide +kernel
theorem dX12_chord_101 : decode cX12_chord 101 = .ok (.iload_n 2, 1) := by decide +kernel
theorem dX12_chord_102 : decode cX12_chord 102 = .ok (.if_icmp .ne 5, 3) := by decide +kernel
theorem dX12_chord_105 : decode cX12_chord 105 = .ok (.iconst (-1), 1) := by decide +kernel
theorem dX12_chord_106 : decode cX12_chord 106 = .ok (.ireturn, 1) := by decide +kernel
theorem dX12_chord_107 : decode cX12_chord 107 = .ok (.iinc 3 1, 3) := by decide +kernel
theorem dX12_chord_110 : decode cX12_chord 110 = .ok (.goto (-53), 3) := by decide +kernel
theorem dX12_chord_113 : decode cX12_chord 113 = .ok (.aload_n 0, 1) := by decide +kernel
theorem dX12_chord_114 : decode cX12_chord 114 = .ok (.getfield 98, 3) := by decide +kernel
theorem dX12_chord_117 : decode cX12_chord 117 = .ok (.aload_n 0, 1) := by decide +kernel
theorem dX12_chord_118 : decode cX12_chord 118 = .ok (.getfield 439, 3) := by decide +kernel
theorem dX12_chord_121 : decode cX12_chord 121 = .ok (.aload_n 0, 1) := by decide +kernel
theorem dX12_chord_122 : decode cX12_chord 122 = .ok (.iload_n 1, 1) := by decide +kernel
theorem dX12_chord_123 : decode cX12_chord 123 = .ok (.iload_n 2, 1) := by decide +kernel
theorem dX12_chord_124 : decode cX12_chord 124 = .ok (.invokevirtual 376, 3) := by decide +kernel
theorem dX12_chord_127 : decode cX12_chord 127 = .ok (.iastore, 1) := by decide +kernel
theorem dX12_chord_128 : decode cX12_chord 128 = .ok (.aload_n 0, 1) := by decide +kernel
theorem dX12_chord_129 : decode cX12_chord 129 = .ok (.getfield 101, 3) := by decide +kernel
theorem dX12_chord_132 : decode cX12_chord 132 = .ok (.aload_n 0, 1) := by decide +kernel
theorem dX12_chord_133 : decode cX12_chord 133 = .ok (.getfield 439, 3) := by decide +kernel
theorem dX12_chord_136 : decode cX12_chord 136 = .ok (.aload_n 0, 1) := by decide +kernel
theorem dX12_chord_137 : decode cX12_chord 137 = .ok (.iload_n 1, 1) := by decide +kernel
theorem dX12_chord_138 : decode cX12_chord 138 = .ok (.iload_n 2, 1) := by decide +kernel
theorem dX12_chord_139 : decode cX12_chord 139 = .ok (.invokevirtual 442, 3) := by decide +kernel
theorem dX12_chord_142 : decode cX12_chord 142 = .ok (.iastore, 1) := by decide +kernel
theorem dX12_chord_143 : decode cX12_chord 143 = .ok (.aload_n 0, 1) := by decide +kernel
theorem dX12_chord_144 : decode cX12_chord 144 = .ok (.aload_n 0, 1) := by decide +kernel
theorem dX12_chord_145 : decode cX12_chord 145 = .ok (.getfield 439, 3) := by decide +kernel
theorem dX12_chord_148 : decode cX12_chord 148 = .ok (.iconst 1, 1) := by decide +kernel
theorem dX12_chord_149 : decode cX12_chord 149 = .ok (.iadd, 1) := by decide +kernel
theorem dX12_chord_150 : decode cX12_chord 150 = .ok (.putfield 439, 3) := by decide +kernel
theorem dX12_chord_153 : decode cX12_chord 153 = .ok (.aload_n 0, 1) := by decide +kernel
theorem dX12_chord_154 : decode cX12_chord 154 = .ok (.getfield 439, 3) := by decide +kernel
theorem dX12_chord_157 : decode cX12_chord 157 = .ok (.ireturn, 1) := by decide +kernel
theorem dX12_doCross_0 : decode cX12_doCross 0 = .ok (.aload_n 0, 1) := by decide +kernel
theorem dX12_doCross_1 : decode cX12_doCross 1 = .ok (.aload_n 0, 1) := by decide +kernel
theorem dX12_doCross_2 : decode cX12_doCross 2 = .ok (.getfield 98, 3) := by decide +kernel
theorem dX12_doCross_5 : decode cX12_doCross 5 = .ok (.iload_n 2, 1) := by decide +kernel
theorem dX12_doCross_6 : decode cX12_doCross 6 = .ok (.iaload, 1) := by decide +kernel
theorem dX12_doCross_7 : decode cX12_doCross 7 = .ok (.aload_n 0, 1) := by decide +kernel
theorem dX12_doCross_8 : decode cX12_doCross 8 = .ok (.getfield 98, 3) := by decide +kernel
theorem dX12_doCross_11 : decode cX12_doCross 11 = .ok (.iload_n 1, 1) := by decide +kernel
theorem dX12_doCross_12 : decode cX12_doCross 12 = .ok (.iaload, 1) := by decide +kernel
theorem dX12_doCross_13 : decode cX12_doCross 13 = .ok (.aload_n 0, 1) := by decide +kernel
theorem dX12_doCross_14 : decode cX12_doCross 14 = .ok (.getfield 101, 3) := by decide +kernel
theorem dX12_doCross_17 : decode cX12_doCross 17 = .ok (.iload_n 1, 1) := by decide +kernel
theorem dX12_doCross_18 : decode cX12_doCross 18 = .ok (.iaload, 1) := by decide +kernel
theorem dX12_doCross_19 : decode cX12_doCross 19 = .ok (.invokevirtual 165, 3) := by decide +kernel
theorem dX12_doCross_22 : decode cX12_doCross 22 = .ok (.aload_n 0, 1) := by decide +kernel
theorem dX12_doCross_23 : decode cX12_doCross 23 = .ok (.aload_n 0, 1) := by decide +kernel
theorem dX12_doCross_24 : decode cX12_doCross 24 = .ok (.getfield 101, 3) := by decide +kernel
theorem dX12_doCross_27 : decode cX12_doCross 27 = .ok (.iload_n 2, 1) := by decide +kernel
theorem dX12_doCross_28 : decode cX12_doCross 28 = .ok (.iaload, 1) := by decide +kernel
theorem dX12_doCross_29 : decode cX12_doCross 29 = .ok (.aload_n 0, 1) := by decide +kernel
theorem dX12_doCross_30 : decode cX12_doCross 30 = .ok (.getfield 98, 3) := by decide +kernel
theorem dX12_doCross_33 : decode cX12_doCross 33 = .ok (.iload_n 1, 1) := by decide +kernel
theorem dX12_doCross_34 : decode cX12_doCross 34 = .ok (.iaload, 1) := by decide +kernel
theorem dX12_doCross_35 : decode cX12_doCross 35 = .ok (.aload_n 0, 1) := by decide +kernel
theorem dX12_doCross_36 : decode cX12_doCross 36 = .ok (.getfield 101, 3) := by decide +kernel
theorem dX12_doCross_39 : decode cX12_doCross 39 = .ok (.iload_n 1, 1) := by decide +kernel
theorem dX12_doCross_40 : decode cX12_doCross 40 = .ok (.iaload, 1) := by decide +kernel
theorem dX12_doCross_41 : decode cX12_doCross 41 = .ok (.invokevirtual 165, 3) := by decide +kernel
theorem dX12_doCross_44 : decode cX12_doCross 44 = .ok (.if_icmp .eq 7, 3) := by decide +kernel
theorem dX12_doCross_47 : decode cX12_doCross 47 = .ok (.iconst 1, 1) := by decide +kernel
theorem dX12_doCross_48 : decode cX12_doCross 48 = .ok (.goto 4, 3) := by decide +kernel
theorem dX12_doCross_51 : decode cX12_doCross 51 = .ok (.iconst 0, 1) := by decide +kernel
theorem dX12_doCross_52 : decode cX12_doCross 52 = .ok (.ireturn, 1) := by decide +kernel
theorem dX12_crossings_0 : decode cX12_crossings 0 = .ok (.iconst 0, 1) := by decide +kernel
theorem dX12_crossings_1 : decode cX12_crossings 1 = .ok (.istore_n 2, 1) := by decide +kernel
theorem dX12_crossings_2 : decode cX12_crossings 2 = .ok (.iconst 0, 1) := by decide +kernel
theorem dX12_crossings_3 : decode cX12_crossings 3 = .ok (.istore_n 3, 1) := by decide +kernel
theorem dX12_crossings_4 : decode cX12_crossings 4 = .ok (.iload_n 3, 1) := by decide +kernel
theorem dX12_crossings_5 : decode cX12_crossings 5 = .ok (.aload_n 0, 1) := by decide +kernel
theorem dX12_crossings_6 : decode cX12_crossings 6 = .ok (.getfield 439, 3) := by decide +kernel
theorem dX12_crossings_9 : decode cX12_crossings 9 = .ok (.if_icmp .ge 57, 3) := by decide +kernel
theorem dX12_crossings_12 : decode cX12_crossings 12 = .ok (.iconst 0, 1) := by decide +kernel
theorem dX12_crossings_13 : decode cX12_crossings 13 = .ok (.istore 4, 2) := by decide +kernel
theorem dX12_crossings_15 : decode cX12_crossings 15 = .ok (.iload 4, 2) := by decide +kernel
theorem dX12_crossings_17 : decode cX12_crossings 17 = .ok (.iload_n 3, 1) := by decide +kernel
theorem dX12_crossings_18 : decode cX12_crossings 18 = .ok (.if_icmp .ge 42, 3) := by decide +kernel
theorem dX12_crossings_21 : decode cX12_crossings 21 = .ok (.aload_n 0, 1) := by decide +kernel
theorem dX12_crossings_22 : decode cX12_crossings 22 = .ok (.iload_n 1, 1) := by decide +kernel
theorem dX12_crossings_23 : decode cX12_crossings 23 = .ok (.iload_n 3, 1) := by decide +kernel
theorem dX12_crossings_24 : decode cX12_crossings 24 = .ok (.invokevirtual 372, 3) := by decide +kernel
theorem dX12_crossings_27 : decode cX12_crossings 27 = .ok (.ifCond .eq 27, 3) := by decide +kernel
theorem dX12_crossings_30 : decode cX12_crossings 30 = .ok (.aload_n 0, 1) := by decide +kernel
theorem dX12_crossings_31 : decode cX12_crossings 31 = .ok (.iload_n 1, 1) := by decide +kernel
theorem dX12_crossings_32 : decode cX12_crossings 32 = .ok (.iload 4, 2) := by decide +kernel
theorem dX12_crossings_34 : decode cX12_crossings 34 = .ok (.invokevirtual 372, 3) := by decide +kernel
theorem dX12_crossings_37 : decode cX12_crossings 37 = .ok (.ifCond .eq 17, 3) := by decide +kernel
theorem dX12_crossings_40 : decode cX12_crossings 40 = .ok (.aload_n 0, 1) := by decide +kernel
theorem dX12_crossings_41 : decode cX12_crossings 41 = .ok (.iload_n 3, 1) := by decide +kernel
theorem dX12_crossings_42 : decode cX12_crossings 42 = .ok (.iload 4, 2) := by decide +kernel
theorem dX12_crossings_44 : decode cX12_crossings 44 = .ok (.invokevirtual 445, 3) := by decide +kernel
theorem dX12_crossings_47 : decode cX12_crossings 47 = .ok (.ifCond .eq 7, 3) := by decide +kernel
theorem dX12_crossings_50 : decode cX12_crossings 50 = .ok (.iload_n 2, 1) := by decide +kernel
theorem dX12_crossings_51 : decode cX12_crossings 51 = .ok (.iconst 1, 1) := by decide +kernel
theorem dX12_crossings_52 : decode cX12_crossings 52 = .ok (.iadd, 1) := by decide +kernel
theorem dX12_crossings_53 : decode cX12_crossings 53 = .ok (.istore_n 2, 1) := by decide +kernel
theorem dX12_crossings_54 : decode cX12_crossings 54 = .ok (.iinc 4 1, 3) := by decide +kernel
theorem dX12_crossings_57 : decode cX12_crossings 57 = .ok (.goto (-42), 3) := by decide +kernel
theorem dX12_crossings_60 : decode cX12_crossings 60 = .ok (.iinc 3 1, 3) := by decide +kernel
theorem dX12_crossings_63 : decode cX12_crossings 63 = .ok (.goto (-59), 3) := by decide +kernel
theorem dX12_crossings_66 : decode cX12_crossings 66 = .ok (.iload_n 2, 1) := by decide +kernel
theorem dX12_crossings_67 : decode cX12_crossings 67 = .ok (.ireturn, 1) := by decide +kernel
theorem dX12_chords_0 : decode cX12_chords 0 = .ok (.aload_n 0, 1) := by decide +kernel
theorem dX12_chords_1 : decode cX12_chords 1 = .ok (.iconst 0, 1) := by decide +kernel
theorem dX12_chords_2 : decode cX12_chords 2 = .ok (.putfield 140, 3) := by decide +kernel
theorem dX12_chords_5 : decode cX12_chords 5 = .ok (.aload_n 0, 1) := by decide +kernel
theorem dX12_chords_6 : decode cX12_chords 6 = .ok (.iload_n 1, 1) := by decide +kernel
theorem dX12_chords_7 : decode cX12_chords 7 = .ok (.iconst 0, 1) := by decide +kernel
theorem dX12_chords_8 : decode cX12_chords 8 = .ok (.iconst 1, 1) := by decide +kernel
theorem dX12_chords_9 : decode cX12_chords 9 = .ok (.invokevirtual 165, 3) := by decide +kernel
theorem dX12_chords_12 : decode cX12_chords 12 = .ok (.ifCond .ne 5, 3) := by decide +kernel
theorem dX12_chords_15 : decode cX12_chords 15 = .ok (.iconst (-1), 1) := by decide +kernel
theorem dX12_chords_16 : decode cX12_chords 16 = .ok (.ireturn, 1) := by decide +kernel
theorem dX12_chords_17 : decode cX12_chords 17 = .ok (.iload_n 1, 1) := by decide +kernel
theorem dX12_chords_18 : decode cX12_chords 18 = .ok (.ifCond .ne 10, 3) := by decide +kernel
theorem dX12_chords_21 : decode cX12_chords 21 = .ok (.aload_n 0, 1) := by decide +kernel
theorem dX12_chords_22 : decode cX12_chords 22 = .ok (.bipush 63, 2) := by decide +kernel
theorem dX12_chords_24 : decode cX12_chords 24 = .ok (.invokevirtual 448, 3) := by decide +kernel
theorem dX12_chords_27 : decode cX12_chords 27 = .ok (.ireturn, 1) := by decide +kernel
theorem dX12_chords_28 : decode cX12_chords 28 = .ok (.iconst 0, 1) := by decide +kernel
theorem dX12_chords_29 : decode cX12_chords 29 = .ok (.istore_n 2, 1) := by decide +kernel
theorem dX12_chords_30 : decode cX12_chords 30 = .ok (.iconst 0, 1) := by decide +kernel
theorem dX12_chords_31 : decode cX12_chords 31 = .ok (.istore_n 3, 1) := by decide +kernel
theorem dX12_chords_32 : decode cX12_chords 32 = .ok (.iload_n 3, 1) := by decide +kernel
theorem dX12_chords_33 : decode cX12_chords 33 = .ok (.iconst 1, 1) := by decide +kernel
theorem dX12_chords_34 : decode cX12_chords 34 = .ok (.aload_n 0, 1) := by decide +kernel
theorem dX12_chords_35 : decode cX12_chords 35 = .ok (.getfield 439, 3) := by decide +kernel
theorem dX12_chords_38 : decode cX12_chords 38 = .ok (.ishl, 1) := by decide +kernel
theorem dX12_chords_39 : decode cX12_chords 39 = .ok (.if_icmp .ge 28, 3) := by decide +kernel
theorem dX12_chords_42 : decode cX12_chords 42 = .ok (.aload_n 0, 1) := by decide +kernel
theorem dX12_chords_43 : decode cX12_chords 43 = .ok (.iload_n 3, 1) := by decide +kernel
theorem dX12_chords_44 : decode cX12_chords 44 = .ok (.invokevirtual 448, 3) := by decide +kernel
theorem dX12_chords_47 : decode cX12_chords 47 = .ok (.ifCond .ne 14, 3) := by decide +kernel
theorem dX12_chords_50 : decode cX12_chords 50 = .ok (.aload_n 0, 1) := by decide +kernel
theorem dX12_chords_51 : decode cX12_chords 51 = .ok (.iload_n 2, 1) := by decide +kernel
theorem dX12_chords_52 : decode cX12_chords 52 = .ok (.aload_n 0, 1) := by decide +kernel
theorem dX12_chords_53 : decode cX12_chords 53 = .ok (.iload_n 3, 1) := by decide +kernel
theorem dX12_chords_54 : decode cX12_chords 54 = .ok (.invokevirtual 347, 3) := by decide +kernel
theorem dX12_chords_57 : decode cX12_chords 57 = .ok (.invokevirtual 442, 3) := by decide +kernel
theorem dX12_chords_60 : decode cX12_chords 60 = .ok (.istore_n 2, 1) := by decide +kernel
theorem dX12_chords_61 : decode cX12_chords 61 = .ok (.iinc 3 1, 3) := by decide +kernel
theorem dX12_chords_64 : decode cX12_chords 64 = .ok (.goto (-32), 3) := by decide +kernel
theorem dX12_chords_67 : decode cX12_chords 67 = .ok (.iload_n 2, 1) := by decide +kernel
theorem dX12_chords_68 : decode cX12_chords 68 = .ok (.ireturn, 1) := by decide +kernel
theorem dX12_stop_0 : decode cX12_stop 0 = .ok (.aload_n 0, 1) := by decide +kernel
theorem dX12_stop_1 : decode cX12_stop 1 = .ok (.iconst 0, 1) := by decide +kernel
theorem dX12_stop_2 : decode cX12_stop 2 = .ok (.putfield 140, 3) := by decide +kernel
theorem dX12_stop_5 : decode cX12_stop 5 = .ok (.iload_n 1, 1) := by decide +kernel
theorem dX12_stop_6 : decode cX12_stop 6 = .ok (.iconst (-1), 1) := by decide +kernel
theorem dX12_stop_7 : decode cX12_stop 7 = .ok (.if_icmp .ne 10, 3) := by decide +kernel
theorem dX12_stop_10 : decode cX12_stop 10 = .ok (.aload_n 0, 1) := by decide +kernel
theorem dX12_stop_11 : decode cX12_stop 11 = .ok (.iconst 0, 1) := by decide +kernel
theorem dX12_stop_12 : decode cX12_stop 12 = .ok (.putfield 451, 3) := by decide +kernel
theorem dX12_stop_15 : decode cX12_stop 15 = .ok (.iconst 0, 1) := by decide +kernel
theorem dX12_stop_16 : decode cX12_stop 16 = .ok (.ireturn, 1) := by decide +kernel
theorem dX12_stop_17 : decode cX12_stop 17 = .ok (.aload_n 0, 1) := by decide +kernel
theorem dX12_stop_18 : decode cX12_stop 18 = .ok (.iload_n 1, 1) := by decide +kernel
theorem dX12_stop_19 : decode cX12_stop 19 = .ok (.iconst 0, 1) := by decide +kernel
theorem dX12_stop_20 : decode cX12_stop 20 = .ok (.bipush 20, 2) := by decide +kernel
theorem dX12_stop_22 : decode cX12_stop 22 = .ok (.invokevirtual 165, 3) := by decide +kernel
theorem dX12_stop_25 : decode cX12_stop 25 = .ok (.ifCond .eq 23, 3) := by decide +kernel
theorem dX12_stop_28 : decode cX12_stop 28 = .ok (.aload_n 0, 1) := by decide +kernel
theorem dX12_stop_29 : decode cX12_stop 29 = .ok (.iload_n 2, 1) := by decide +kernel
theorem dX12_stop_30 : decode cX12_stop 30 = .ok (.iconst 0, 1) := by decide +kernel
theorem dX12_stop_31 : decode cX12_stop 31 = .ok (.bipush 20, 2) := by decide +kernel
theorem dX12_stop_33 : decode cX12_stop 33 = .ok (.invokevirtual 165, 3) := by decide +kernel
theorem dX12_stop_36 : decode cX12_stop 36 = .ok (.ifCond .eq 12, 3) := by decide +kernel
theorem dX12_stop_39 : decode cX12_stop 39 = .ok (.aload_n 0, 1) := by decide +kernel
theorem dX12_stop_40 : decode cX12_stop 40 = .ok (.getfield 451, 3) := by decide +kernel
theorem dX12_stop_43 : decode cX12_stop 43 = .ok (.bipush 7, 2) := by decide +kernel
theorem dX12_stop_45 : decode cX12_stop 45 = .ok (.if_icmp .ne 5, 3) := by decide +kernel
theorem dX12_stop_48 : decode cX12_stop 48 = .ok (.iconst (-1), 1) := by decide +kernel
theorem dX12_stop_49 : decode cX12_stop 49 = .ok (.ireturn, 1) := by decide +kernel
theorem dX12_stop_50 : decode cX12_stop 50 = .ok (.aload_n 0, 1) := by decide +kernel
theorem dX12_stop_51 : decode cX12_stop 51 = .ok (.getfield 104, 3) := by decide +kernel
theorem dX12_stop_54 : decode cX12_stop 54 = .ok (.aload_n 0, 1) := by decide +kernel
theorem dX12_stop_55 : decode cX12_stop 55 = .ok (.getfield 451, 3) := by decide +kernel
theorem dX12_stop_58 : decode cX12_stop 58 = .ok (.iload_n 1, 1) := by decide +kernel
theorem dX12_stop_59 : decode cX12_stop 59 = .ok (.iastore, 1) := by decide +kernel
theorem dX12_stop_60 : decode cX12_stop 60 = .ok (.aload_n 0, 1) := by decide +kernel
theorem dX12_stop_61 : decode cX12_stop 61 = .ok (.getfield 107, 3) := by decide +kernel
theorem dX12_stop_64 : decode cX12_stop 64 = .ok (.aload_n 0, 1) := by decide +kernel
theorem dX12_stop_65 : decode cX12_stop 65 = .ok (.getfield 451, 3) := by decide +kernel
theorem dX12_stop_68 : decode cX12_stop 68 = .ok (.iload_n 2, 1) := by decide +kernel
theorem dX12_stop_69 : decode cX12_stop 69 = .ok (.iastore, 1) := by decide +kernel
theorem dX12_stop_70 : decode cX12_stop 70 = .ok (.aload_n 0, 1) := by decide +kernel
theorem dX12_stop_71 : decode cX12_stop 71 = .ok (.aload_n 0, 1) := by decide +kernel
theorem dX12_stop_72 : decode cX12_stop 72 = .ok (.getfield 451, 3) := by decide +kernel
theorem dX12_stop_75 : decode cX12_stop 75 = .ok (.iconst 1, 1) := by decide +kernel
theorem dX12_stop_76 : decode cX12_stop 76 = .ok (.iadd, 1) := by decide +kernel
theorem dX12_stop_77 : decode cX12_stop 77 = .ok (.putfield 451, 3) := by decide +kernel
theorem dX12_stop_80 : decode cX12_stop 80 = .ok (.aload_n 0, 1) := by decide +kernel
theorem dX12_stop_81 : decode cX12_stop 81 = .ok (.getfield 451, 3) := by decide +kernel
theorem dX12_stop_84 : decode cX12_stop 84 = .ok (.ireturn, 1) := by decide +kernel
theorem dX12_stepsBetween_0 : decode cX12_stepsBetween 0 = .ok (.aload_n 0, 1) := by decide +kernel
theorem dX12_stepsBetween_1 : decode cX12_stepsBetween 1 = .ok (.aload_n 0, 1) := by decide +kernel
theorem dX12_stepsBetween_2 : decode cX12_stepsBetween 2 = .ok (.getfield 104, 3) := by decide +kernel
theorem dX12_stepsBetween_5 : decode cX12_stepsBetween 5 = .ok (.iload_n 1, 1) := by decide +kernel
theorem dX12_stepsBetween_6 : decode cX12_stepsBetween 6 = .ok (.iaload, 1) := by decide +kernel
theorem dX12_stepsBetween_7 : decode cX12_stepsBetween 7 = .ok (.aload_n 0, 1) := by decide +kernel
theorem dX12_stepsBetween_8 : decode cX12_stepsBetween 8 = .ok (.getfield 104, 3) := by decide +kernel
theorem dX12_stepsBetween_11 : decode cX12_stepsBetween 11 = .ok (.iload_n 2, 1) := by decide +kernel
theorem dX12_stepsBetween_12 : decode cX12_stepsBetween 12 = .ok (.iaload, 1) := by decide +kernel
theorem dX12_stepsBetween_13 : decode cX12_stepsBetween 13 = .ok (.isub, 1) := by decide +kernel
theorem dX12_stepsBetween_14 : decode cX12_stepsBetween 14 = .ok (.invokevirtual 143, 3) := by decide +kernel
theorem dX12_stepsBetween_17 : decode cX12_stepsBetween 17 = .ok (.aload_n 0, 1) := by decide +kernel
theorem dX12_stepsBetween_18 : decode cX12_stepsBetween 18 = .ok (.aload_n 0, 1) := by decide +kernel
theorem dX12_stepsBetween_19 : decode cX12_stepsBetween 19 = .ok (.getfield 107, 3) := by decide +kernel
theorem dX12_stepsBetween_22 : decode cX12_stepsBetween 22 = .ok (.iload_n 1, 1) := by decide +kernel
theorem dX12_stepsBetween_23 : decode cX12_stepsBetween 23 = .ok (.iaload, 1) := by decide +kernel
theorem dX12_stepsBetween_24 : decode cX12_stepsBetween 24 = .ok (.aload_n 0, 1) := by decide +kernel
theorem dX12_stepsBetween_25 : decode cX12_stepsBetween 25 = .ok (.getfield 107, 3) := by decide +kernel
theorem dX12_stepsBetween_28 : decode cX12_stepsBetween 28 = .ok (.iload_n 2, 1) := by decide +kernel
theorem dX12_stepsBetween_29 : decode cX12_stepsBetween 29 = .ok (.iaload, 1) := by decide +kernel
theorem dX12_stepsBetween_30 : decode cX12_stepsBetween 30 = .ok (.isub, 1) := by decide +kernel
theorem dX12_stepsBetween_31 : decode cX12_stepsBetween 31 = .ok (.invokevirtual 143, 3) := by decide +kernel
theorem dX12_stepsBetween_34 : decode cX12_stepsBetween 34 = .ok (.iadd, 1) := by decide +kernel
theorem dX12_stepsBetween_35 : decode cX12_stepsBetween 35 = .ok (.ireturn, 1) := by decide +kernel
theorem dX12_stepsOf_0 : decode cX12_stepsOf 0 = .ok (.iconst 0, 1) := by decide +kernel
theorem dX12_stepsOf_1 : decode cX12_stepsOf 1 = .ok (.istore_n 2, 1) := by decide +kernel
theorem dX12_stepsOf_2 : decode cX12_stepsOf 2 = .ok (.iconst 0, 1) := by decide +kernel
theorem dX12_stepsOf_3 : decode cX12_stepsOf 3 = .ok (.istore_n 3, 1) := by decide +kernel
theorem dX12_stepsOf_4 : decode cX12_stepsOf 4 = .ok (.iconst 1, 1) := by decide +kernel
theorem dX12_stepsOf_5 : decode cX12_stepsOf 5 = .ok (.istore 4, 2) := by decide +kernel
theorem dX12_stepsOf_7 : decode cX12_stepsOf 7 = .ok (.iload_n 1, 1) := by decide +kernel
theorem dX12_stepsOf_8 : decode cX12_stepsOf 8 = .ok (.istore 5, 2) := by decide +kernel
theorem dX12_stepsOf_10 : decode cX12_stepsOf 10 = .ok (.iload 5, 2) := by decide +kernel
theorem dX12_stepsOf_12 : decode cX12_stepsOf 12 = .ok (.ifCond .le 73, 3) := by decide +kernel
theorem dX12_stepsOf_15 : decode cX12_stepsOf 15 = .ok (.iload 5, 2) := by decide +kernel
theorem dX12_stepsOf_17 : decode cX12_stepsOf 17 = .ok (.bipush 10, 2) := by decide +kernel
theorem dX12_stepsOf_19 : decode cX12_stepsOf 19 = .ok (.irem, 1) := by decide +kernel
theorem dX12_stepsOf_20 : decode cX12_stepsOf 20 = .ok (.istore 6, 2) := by decide +kernel
theorem dX12_stepsOf_22 : decode cX12_stepsOf 22 = .ok (.aload_n 0, 1) := by decide +kernel
theorem dX12_stepsOf_23 : decode cX12_stepsOf 23 = .ok (.iload 6, 2) := by decide +kernel
theorem dX12_stepsOf_25 : decode cX12_stepsOf 25 = .ok (.iconst 1, 1) := by decide +kernel
theorem dX12_stepsOf_26 : decode cX12_stepsOf 26 = .ok (.aload_n 0, 1) := by decide +kernel
theorem dX12_stepsOf_27 : decode cX12_stepsOf 27 = .ok (.getfield 451, 3) := by decide +kernel
theorem dX12_stepsOf_30 : decode cX12_stepsOf 30 = .ok (.iconst 1, 1) := by decide +kernel
theorem dX12_stepsOf_31 : decode cX12_stepsOf 31 = .ok (.isub, 1) := by decide +kernel
theorem dX12_stepsOf_32 : decode cX12_stepsOf 32 = .ok (.invokevirtual 165, 3) := by decide +kernel
theorem dX12_stepsOf_35 : decode cX12_stepsOf 35 = .ok (.ifCond .eq 14, 3) := by decide +kernel
theorem dX12_stepsOf_38 : decode cX12_stepsOf 38 = .ok (.aload_n 0, 1) := by decide +kernel
theorem dX12_stepsOf_39 : decode cX12_stepsOf 39 = .ok (.iload 4, 2) := by decide +kernel
theorem dX12_stepsOf_41 : decode cX12_stepsOf 41 = .ok (.iload 6, 2) := by decide +kernel
theorem dX12_stepsOf_43 : decode cX12_stepsOf 43 = .ok (.invokevirtual 372, 3) := by decide +kernel
theorem dX12_stepsOf_46 : decode cX12_stepsOf 46 = .ok (.ifCond .eq 7, 3) := by decide +kernel
theorem dX12_stepsOf_49 : decode cX12_stepsOf 49 = .ok (.ldc_w 454, 3) := by decide +kernel
theorem dX12_stepsOf_52 : decode cX12_stepsOf 52 = .ok (.ireturn, 1) := by decide +kernel
theorem dX12_stepsOf_53 : decode cX12_stepsOf 53 = .ok (.iload 4, 2) := by decide +kernel
theorem dX12_stepsOf_55 : decode cX12_stepsOf 55 = .ok (.iconst 1, 1) := by decide +kernel
theorem dX12_stepsOf_56 : decode cX12_stepsOf 56 = .ok (.iload 6, 2) := by decide +kernel
theorem dX12_stepsOf_58 : decode cX12_stepsOf 58 = .ok (.ishl, 1) := by decide +kernel
theorem dX12_stepsOf_59 : decode cX12_stepsOf 59 = .ok (.ior, 1) := by decide +kernel
theorem dX12_stepsOf_60 : decode cX12_stepsOf 60 = .ok (.istore 4, 2) := by decide +kernel
theorem dX12_stepsOf_62 : decode cX12_stepsOf 62 = .ok (.iload_n 3, 1) := by decide +kernel
theorem dX12_stepsOf_63 : decode cX12_stepsOf 63 = .ok (.aload_n 0, 1) := by decide +kernel
theorem dX12_stepsOf_64 : decode cX12_stepsOf 64 = .ok (.iload_n 2, 1) := by decide +kernel
theorem dX12_stepsOf_65 : decode cX12_stepsOf 65 = .ok (.iload 6, 2) := by decide +kernel
theorem dX12_stepsOf_67 : decode cX12_stepsOf 67 = .ok (.invokevirtual 455, 3) := by decide +kernel
theorem dX12_stepsOf_70 : decode cX12_stepsOf 70 = .ok (.iadd, 1) := by decide +kernel
theorem dX12_stepsOf_71 : decode cX12_stepsOf 71 = .ok (.istore_n 3, 1) := by decide +kernel
theorem dX12_stepsOf_72 : decode cX12_stepsOf 72 = .ok (.iload 6, 2) := by decide +kernel
theorem dX12_stepsOf_74 : decode cX12_stepsOf 74 = .ok (.istore_n 2, 1) := by decide +kernel
theorem dX12_stepsOf_75 : decode cX12_stepsOf 75 = .ok (.iload 5, 2) := by decide +kernel
theorem dX12_stepsOf_77 : decode cX12_stepsOf 77 = .ok (.bipush 10, 2) := by decide +kernel
theorem dX12_stepsOf_79 : decode cX12_stepsOf 79 = .ok (.idiv, 1) := by decide +kernel
theorem dX12_stepsOf_80 : decode cX12_stepsOf 80 = .ok (.istore 5, 2) := by decide +kernel
theorem dX12_stepsOf_82 : decode cX12_stepsOf 82 = .ok (.goto (-72), 3) := by decide +kernel
theorem dX12_stepsOf_85 : decode cX12_stepsOf 85 = .ok (.iload 4, 2) := by decide +kernel
theorem dX12_stepsOf_87 : decode cX12_stepsOf 87 = .ok (.iconst 1, 1) := by decide +kernel
theorem dX12_stepsOf_88 : decode cX12_stepsOf 88 = .ok (.aload_n 0, 1) := by decide +kernel
theorem dX12_stepsOf_89 : decode cX12_stepsOf 89 = .ok (.getfield 451, 3) := by decide +kernel
theorem dX12_stepsOf_92 : decode cX12_stepsOf 92 = .ok (.ishl, 1) := by decide +kernel
theorem dX12_stepsOf_93 : decode cX12_stepsOf 93 = .ok (.iconst 1, 1) := by decide +kernel
theorem dX12_stepsOf_94 : decode cX12_stepsOf 94 = .ok (.isub, 1) := by decide +kernel
theorem dX12_stepsOf_95 : decode cX12_stepsOf 95 = .ok (.if_icmp .ne 14, 3) := by decide +kernel
theorem dX12_stepsOf_98 : decode cX12_stepsOf 98 = .ok (.iload_n 3, 1) := by decide +kernel
theorem dX12_stepsOf_99 : decode cX12_stepsOf 99 = .ok (.aload_n 0, 1) := by decide +kernel
theorem dX12_stepsOf_100 : decode cX12_stepsOf 100 = .ok (.iload_n 2, 1) := by decide +kernel
theorem dX12_stepsOf_101 : decode cX12_stepsOf 101 = .ok (.iconst 0, 1) := by decide +kernel
theorem dX12_stepsOf_102 : decode cX12_stepsOf 102 = .ok (.invokevirtual 455, 3) := by decide +kernel
theorem dX12_stepsOf_105 : decode cX12_stepsOf 105 = .ok (.iadd, 1) := by decide +kernel
theorem dX12_stepsOf_106 : decode cX12_stepsOf 106 = .ok (.goto 6, 3) := by decide +kernel
theorem dX12_stepsOf_109 : decode cX12_stepsOf 109 = .ok (.ldc_w 454, 3) := by decide +kernel
theorem dX12_stepsOf_112 : decode cX12_stepsOf 112 = .ok (.ireturn, 1) := by decide +kernel
theorem dX12_round_0 : decode cX12_round 0 = .ok (.aload_n 0, 1) := by decide +kernel
theorem dX12_round_1 : decode cX12_round 1 = .ok (.iconst 0, 1) := by decide +kernel
theorem dX12_round_2 : decode cX12_round 2 = .ok (.putfield 140, 3) := by decide +kernel
theorem dX12_round_5 : decode cX12_round 5 = .ok (.aload_n 0, 1) := by decide +kernel
theorem dX12_round_6 : decode cX12_round 6 = .ok (.iload_n 1, 1) := by decide +kernel
theorem dX12_round_7 : decode cX12_round 7 = .ok (.iconst 0, 1) := by decide +kernel
theorem dX12_round_8 : decode cX12_round 8 = .ok (.iconst 1, 1) := by decide +kernel
theorem dX12_round_9 : decode cX12_round 9 = .ok (.invokevirtual 165, 3) := by decide +kernel
theorem dX12_round_12 : decode cX12_round 12 = .ok (.ifCond .ne 5, 3) := by decide +kernel
theorem dX12_round_15 : decode cX12_round 15 = .ok (.iconst (-1), 1) := by decide +kernel
theorem dX12_round_16 : decode cX12_round 16 = .ok (.ireturn, 1) := by decide +kernel
theorem dX12_round_17 : decode cX12_round 17 = .ok (.aload_n 0, 1) := by decide +kernel
theorem dX12_round_18 : decode cX12_round 18 = .ok (.getfield 451, 3) := by decide +kernel
theorem dX12_round_21 : decode cX12_round 21 = .ok (.iconst 2, 1) := by decide +kernel
theorem dX12_round_22 : decode cX12_round 22 = .ok (.if_icmp .ge 5, 3) := by decide +kernel
theorem dX12_round_25 : decode cX12_round 25 = .ok (.iconst 0, 1) := by decide +kernel
theorem dX12_round_26 : decode cX12_round 26 = .ok (.ireturn, 1) := by decide +kernel
theorem dX12_round_27 : decode cX12_round 27 = .ok (.iconst 0, 1) := by decide +kernel
theorem dX12_round_28 : decode cX12_round 28 = .ok (.istore_n 2, 1) := by decide +kernel
theorem dX12_round_29 : decode cX12_round 29 = .ok (.iconst 0, 1) := by decide +kernel
theorem dX12_round_30 : decode cX12_round 30 = .ok (.istore_n 3, 1) := by decide +kernel
theorem dX12_round_31 : decode cX12_round 31 = .ok (.iconst 1, 1) := by decide +kernel
theorem dX12_round_32 : decode cX12_round 32 = .ok (.istore 4, 2) := by decide +kernel
theorem dX12_round_34 : decode cX12_round 34 = .ok (.iload 4, 2) := by decide +kernel
theorem dX12_round_36 : decode cX12_round 36 = .ok (.aload_n 0, 1) := by decide +kernel
theorem dX12_round_37 : decode cX12_round 37 = .ok (.getfield 451, 3) := by decide +kernel
theorem dX12_round_40 : decode cX12_round 40 = .ok (.if_icmp .ge 30, 3) := by decide +kernel
theorem dX12_round_43 : decode cX12_round 43 = .ok (.bipush 10, 2) := by decide +kernel
theorem dX12_round_45 : decode cX12_round 45 = .ok (.iload_n 2, 1) := by decide +kernel
theorem dX12_round_46 : decode cX12_round 46 = .ok (.imul, 1) := by decide +kernel
theorem dX12_round_47 : decode cX12_round 47 = .ok (.iload 4, 2) := by decide +kernel
theorem dX12_round_49 : decode cX12_round 49 = .ok (.iadd, 1) := by decide +kernel
theorem dX12_round_50 : decode cX12_round 50 = .ok (.istore_n 2, 1) := by decide +kernel
theorem dX12_round_51 : decode cX12_round 51 = .ok (.bipush 10, 2) := by decide +kernel
theorem dX12_round_53 : decode cX12_round 53 = .ok (.iload_n 3, 1) := by decide +kernel
theorem dX12_round_54 : decode cX12_round 54 = .ok (.imul, 1) := by decide +kernel
theorem dX12_round_55 : decode cX12_round 55 = .ok (.aload_n 0, 1) := by decide +kernel
theorem dX12_round_56 : decode cX12_round 56 = .ok (.getfield 451, 3) := by decide +kernel
theorem dX12_round_59 : decode cX12_round 59 = .ok (.iadd, 1) := by decide +kernel
theorem dX12_round_60 : decode cX12_round 60 = .ok (.iload 4, 2) := by decide +kernel
theorem dX12_round_62 : decode cX12_round 62 = .ok (.isub, 1) := by decide +kernel
theorem dX12_round_63 : decode cX12_round 63 = .ok (.istore_n 3, 1) := by decide +kernel
theorem dX12_round_64 : decode cX12_round 64 = .ok (.iinc 4 1, 3) := by decide +kernel
theorem dX12_round_67 : decode cX12_round 67 = .ok (.goto (-33), 3) := by decide +kernel
theorem dX12_round_70 : decode cX12_round 70 = .ok (.iload_n 2, 1) := by decide +kernel
theorem dX12_round_71 : decode cX12_round 71 = .ok (.istore 4, 2) := by decide +kernel
theorem dX12_round_73 : decode cX12_round 73 = .ok (.iload_n 2, 1) := by decide +kernel
theorem dX12_round_74 : decode cX12_round 74 = .ok (.istore 5, 2) := by decide +kernel
theorem dX12_round_76 : decode cX12_round 76 = .ok (.iload 5, 2) := by decide +kernel
theorem dX12_round_78 : decode cX12_round 78 = .ok (.iload_n 3, 1) := by decide +kernel
theorem dX12_round_79 : decode cX12_round 79 = .ok (.if_icmp .gt 28, 3) := by decide +kernel
theorem dX12_round_82 : decode cX12_round 82 = .ok (.aload_n 0, 1) := by decide +kernel
theorem dX12_round_83 : decode cX12_round 83 = .ok (.iload 5, 2) := by decide +kernel
theorem dX12_round_85 : decode cX12_round 85 = .ok (.invokevirtual 458, 3) := by decide +kernel
theorem dX12_round_88 : decode cX12_round 88 = .ok (.aload_n 0, 1) := by decide +kernel
theorem dX12_round_89 : decode cX12_round 89 = .ok (.iload 4, 2) := by decide +kernel
theorem dX12_round_91 : decode cX12_round 91 = .ok (.invokevirtual 458, 3) := by decide +kernel
theorem dX12_round_94 : decode cX12_round 94 = .ok (.if_icmp .ge 7, 3) := by decide +kernel
theorem dX12_round_97 : decode cX12_round 97 = .ok (.iload 5, 2) := by decide +kernel
theorem dX12_round_99 : decode cX12_round 99 = .ok (.istore 4, 2) := by decide +kernel
theorem dX12_round_101 : decode cX12_round 101 = .ok (.iinc 5 1, 3) := by decide +kernel
theorem dX12_round_104 : decode cX12_round 104 = .ok (.goto (-28), 3) := by decide +kernel
theorem dX12_round_107 : decode cX12_round 107 = .ok (.iload_n 1, 1) := by decide +kernel
theorem dX12_round_108 : decode cX12_round 108 = .ok (.ifCond .ne 12, 3) := by decide +kernel
theorem dX12_round_111 : decode cX12_round 111 = .ok (.aload_n 0, 1) := by decide +kernel
theorem dX12_round_112 : decode cX12_round 112 = .ok (.iload 4, 2) := by decide +kernel
theorem dX12_round_114 : decode cX12_round 114 = .ok (.invokevirtual 458, 3) := by decide +kernel
theorem dX12_round_117 : decode cX12_round 117 = .ok (.goto 5, 3) := by decide +kernel
theorem dX12_round_120 : decode cX12_round 120 = .ok (.iload 4, 2) := by decide +kernel
theorem dX12_round_122 : decode cX12_round 122 = .ok (.ireturn, 1) := by decide +kernel
theorem dX12_ones_0 : decode cX12_ones 0 = .ok (.aload_n 0, 1) := by decide +kernel
theorem dX12_ones_1 : decode cX12_ones 1 = .ok (.iconst 0, 1) := by decide +kernel
theorem dX12_ones_2 : decode cX12_ones 2 = .ok (.putfield 140, 3) := by decide +kernel
theorem dX12_ones_5 : decode cX12_ones 5 = .ok (.aload_n 0, 1) := by decide +kernel
theorem dX12_ones_6 : decode cX12_ones 6 = .ok (.iload_n 1, 1) := by decide +kernel
theorem dX12_ones_7 : decode cX12_ones 7 = .ok (.iconst 0, 1) := by decide +kernel
theorem dX12_ones_8 : decode cX12_ones 8 = .ok (.sipush 9999, 3) := by decide +kernel
theorem dX12_ones_11 : decode cX12_ones 11 = .ok (.invokevirtual 165, 3) := by decide +kernel
theorem dX12_ones_14 : decode cX12_ones 14 = .ok (.ifCond .eq 14, 3) := by decide +kernel
theorem dX12_ones_17 : decode cX12_ones 17 = .ok (.aload_n 0, 1) := by decide +kernel
theorem dX12_ones_18 : decode cX12_ones 18 = .ok (.iload_n 2, 1) := by decide +kernel
theorem dX12_ones_19 : decode cX12_ones 19 = .ok (.iconst (-1), 1) := by decide +kernel
theorem dX12_ones_20 : decode cX12_ones 20 = .ok (.bipush 14, 2) := by decide +kernel
theorem dX12_ones_22 : decode cX12_ones 22 = .ok (.invokevirtual 165, 3) := by decide +kernel
theorem dX12_ones_25 : decode cX12_ones 25 = .ok (.ifCond .ne 5, 3) := by decide +kernel
theorem dX12_ones_28 : decode cX12_ones 28 = .ok (.iconst (-1), 1) := by decide +kernel
theorem dX12_ones_29 : decode cX12_ones 29 = .ok (.ireturn, 1) := by decide +kernel
theorem dX12_ones_30 : decode cX12_ones 30 = .ok (.iconst 0, 1) := by decide +kernel
theorem dX12_ones_31 : decode cX12_ones 31 = .ok (.istore_n 3, 1) := by decide +kernel
theorem dX12_ones_32 : decode cX12_ones 32 = .ok (.iconst 0, 1) := by decide +kernel
theorem dX12_ones_33 : decode cX12_ones 33 = .ok (.istore 4, 2) := by decide +kernel
theorem dX12_ones_35 : decode cX12_ones 35 = .ok (.iload 4, 2) := by decide +kernel
theorem dX12_ones_37 : decode cX12_ones 37 = .ok (.iload_n 1, 1) := by decide +kernel
theorem dX12_ones_38 : decode cX12_ones 38 = .ok (.if_icmp .gt 41, 3) := by decide +kernel
theorem dX12_ones_41 : decode cX12_ones 41 = .ok (.iload_n 3, 1) := by decide +kernel
theorem dX12_ones_42 : decode cX12_ones 42 = .ok (.iload_n 2, 1) := by decide +kernel
theorem dX12_ones_43 : decode cX12_ones 43 = .ok (.iconst (-1), 1) := by decide +kernel
theorem dX12_ones_44 : decode cX12_ones 44 = .ok (.if_icmp .ne 12, 3) := by decide +kernel
theorem dX12_ones_47 : decode cX12_ones 47 = .ok (.aload_n 0, 1) := by decide +kernel
theorem dX12_ones_48 : decode cX12_ones 48 = .ok (.iload 4, 2) := by decide +kernel
theorem dX12_ones_50 : decode cX12_ones 50 = .ok (.invokevirtual 347, 3) := by decide +kernel
theorem dX12_ones_53 : decode cX12_ones 53 = .ok (.goto 18, 3) := by decide +kernel
theorem dX12_ones_56 : decode cX12_ones 56 = .ok (.aload_n 0, 1) := by decide +kernel
theorem dX12_ones_57 : decode cX12_ones 57 = .ok (.iload 4, 2) := by decide +kernel
theorem dX12_ones_59 : decode cX12_ones 59 = .ok (.invokevirtual 347, 3) := by decide +kernel
theorem dX12_ones_62 : decode cX12_ones 62 = .ok (.iload_n 2, 1) := by decide +kernel
theorem dX12_ones_63 : decode cX12_ones 63 = .ok (.if_icmp .ne 7, 3) := by decide +kernel
theorem dX12_ones_66 : decode cX12_ones 66 = .ok (.iconst 1, 1) := by decide +kernel
theorem dX12_ones_67 : decode cX12_ones 67 = .ok (.goto 4, 3) := by decide +kernel
theorem dX12_ones_70 : decode cX12_ones 70 = .ok (.iconst 0, 1) := by decide +kernel
theorem dX12_ones_71 : decode cX12_ones 71 = .ok (.iadd, 1) := by decide +kernel
theorem dX12_ones_72 : decode cX12_ones 72 = .ok (.istore_n 3, 1) := by decide +kernel
theorem dX12_ones_73 : decode cX12_ones 73 = .ok (.iinc 4 1, 3) := by decide +kernel
theorem dX12_ones_76 : decode cX12_ones 76 = .ok (.goto (-41), 3) := by decide +kernel
theorem dX12_ones_79 : decode cX12_ones 79 = .ok (.iload_n 3, 1) := by decide +kernel
theorem dX12_ones_80 : decode cX12_ones 80 = .ok (.ireturn, 1) := by decide +kernel
theorem dX12_digit_0 : decode cX12_digit 0 = .ok (.aload_n 0, 1) := by decide +kernel
theorem dX12_digit_1 : decode cX12_digit 1 = .ok (.iconst 0, 1) := by decide +kernel
theorem dX12_digit_2 : decode cX12_digit 2 = .ok (.putfield 140, 3) := by decide +kernel
theorem dX12_digit_5 : decode cX12_digit 5 = .ok (.iload_n 1, 1) := by decide +kernel
theorem dX12_digit_6 : decode cX12_digit 6 = .ok (.iconst (-1), 1) := by decide +kernel
theorem dX12_digit_7 : decode cX12_digit 7 = .ok (.if_icmp .ne 10, 3) := by decide +kernel
theorem dX12_digit_10 : decode cX12_digit 10 = .ok (.aload_n 0, 1) := by decide +kernel
theorem dX12_digit_11 : decode cX12_digit 11 = .ok (.iconst 0, 1) := by decide +kernel
theorem dX12_digit_12 : decode cX12_digit 12 = .ok (.putfield 461, 3) := by decide +kernel
theorem dX12_digit_15 : decode cX12_digit 15 = .ok (.iconst 0, 1) := by decide +kernel
theorem dX12_digit_16 : decode cX12_digit 16 = .ok (.ireturn, 1) := by decide +kernel
theorem dX12_digit_17 : decode cX12_digit 17 = .ok (.aload_n 0, 1) := by decide +kernel
theorem dX12_digit_18 : decode cX12_digit 18 = .ok (.iload_n 1, 1) := by decide +kernel
theorem dX12_digit_19 : decode cX12_digit 19 = .ok (.iconst 0, 1) := by decide +kernel
theorem dX12_digit_20 : decode cX12_digit 20 = .ok (.bipush 9, 2) := by decide +kernel
theorem dX12_digit_22 : decode cX12_digit 22 = .ok (.invokevirtual 165, 3) := by decide +kernel
theorem dX12_digit_25 : decode cX12_digit 25 = .ok (.ifCond .eq 12, 3) := by decide +kernel
theorem dX12_digit_28 : decode cX12_digit 28 = .ok (.aload_n 0, 1) := by decide +kernel
theorem dX12_digit_29 : decode cX12_digit 29 = .ok (.getfield 461, 3) := by decide +kernel
theorem dX12_digit_32 : decode cX12_digit 32 = .ok (.bipush 8, 2) := by decide +kernel
theorem dX12_digit_34 : decode cX12_digit 34 = .ok (.if_icmp .ne 5, 3) := by decide +kernel
theorem dX12_digit_37 : decode cX12_digit 37 = .ok (.iconst (-1), 1) := by decide +kernel
theorem dX12_digit_38 : decode cX12_digit 38 = .ok (.ireturn, 1) := by decide +kernel
theorem dX12_digit_39 : decode cX12_digit 39 = .ok (.aload_n 0, 1) := by decide +kernel
theorem dX12_digit_40 : decode cX12_digit 40 = .ok (.getfield 110, 3) := by decide +kernel
theorem dX12_digit_43 : decode cX12_digit 43 = .ok (.aload_n 0, 1) := by decide +kernel
theorem dX12_digit_44 : decode cX12_digit 44 = .ok (.getfield 461, 3) := by decide +kernel
theorem dX12_digit_47 : decode cX12_digit 47 = .ok (.iload_n 1, 1) := by decide +kernel
theorem dX12_digit_48 : decode cX12_digit 48 = .ok (.iastore, 1) := by decide +kernel
theorem dX12_digit_49 : decode cX12_digit 49 = .ok (.aload_n 0, 1) := by decide +kernel
theorem dX12_digit_50 : decode cX12_digit 50 = .ok (.aload_n 0, 1) := by decide +kernel
theorem dX12_digit_51 : decode cX12_digit 51 = .ok (.getfield 461, 3) := by decide +kernel
theorem dX12_digit_54 : decode cX12_digit 54 = .ok (.iconst 1, 1) := by decide +kernel
theorem dX12_digit_55 : decode cX12_digit 55 = .ok (.iadd, 1) := by decide +kernel
theorem dX12_digit_56 : decode cX12_digit 56 = .ok (.putfield 461, 3) := by decide +kernel
theorem dX12_digit_59 : decode cX12_digit 59 = .ok (.aload_n 0, 1) := by decide +kernel
theorem dX12_digit_60 : decode cX12_digit 60 = .ok (.getfield 461, 3) := by decide +kernel
theorem dX12_digit_63 : decode cX12_digit 63 = .ok (.ireturn, 1) := by decide +kernel
theorem dX12_product_0 : decode cX12_product 0 = .ok (.iconst 1, 1) := by decide +kernel
theorem dX12_product_1 : decode cX12_product 1 = .ok (.istore_n 2, 1) := by decide +kernel
theorem dX12_product_2 : decode cX12_product 2 = .ok (.iconst 2, 1) := by decide +kernel
theorem dX12_product_3 : decode cX12_product 3 = .ok (.istore_n 3, 1) := by decide +kernel
theorem dX12_product_4 : decode cX12_product 4 = .ok (.iload_n 3, 1) := by decide +kernel
theorem dX12_product_5 : decode cX12_product 5 = .ok (.iload_n 1, 1) := by decide +kernel
theorem dX12_product_6 : decode cX12_product 6 = .ok (.if_icmp .gt 13, 3) := by decide +kernel
theorem dX12_product_9 : decode cX12_product 9 = .ok (.iload_n 2, 1) := by decide +kernel
theorem dX12_product_10 : decode cX12_product 10 = .ok (.iload_n 3, 1) := by decide +kernel
theorem dX12_product_11 : decode cX12_product 11 = .ok (.imul, 1) := by decide +kernel
theorem dX12_product_12 : decode cX12_product 12 = .ok (.istore_n 2, 1) := by decide +kernel
theorem dX12_product_13 : decode cX12_product 13 = .ok (.iinc 3 1, 3) := by decide +kernel
theorem dX12_product_16 : decode cX12_product 16 = .ok (.goto (-12), 3) := by decide +kernel
theorem dX12_product_19 : decode cX12_product 19 = .ok (.iload_n 2, 1) := by decide +kernel
theorem dX12_product_20 : decode cX12_product 20 = .ok (.ireturn, 1) := by decide +kernel
theorem dX12_ordersLeft_0 : decode cX12_ordersLeft 0 = .ok (.iconst 0, 1) := by decide +kernel
theorem dX12_ordersLeft_1 : decode cX12_ordersLeft 1 = .ok (.istore_n 1, 1) := by decide +kernel
theorem dX12_ordersLeft_2 : decode cX12_ordersLeft 2 = .ok (.iconst 1, 1) := by decide +kernel
theorem dX12_ordersLeft_3 : decode cX12_ordersLeft 3 = .ok (.istore_n 2, 1) := by decide +kernel
theorem dX12_ordersLeft_4 : decode cX12_ordersLeft 4 = .ok (.iconst 0, 1) := by decide +kernel
theorem dX12_ordersLeft_5 : decode cX12_ordersLeft 5 = .ok (.istore_n 3, 1) := by decide +kernel
theorem dX12_ordersLeft_6 : decode cX12_ordersLeft 6 = .ok (.iload_n 3, 1) := by decide +kernel
theorem dX12_ordersLeft_7 : decode cX12_ordersLeft 7 = .ok (.bipush 10, 2) := by decide +kernel
theorem dX12_ordersLeft_9 : decode cX12_ordersLeft 9 = .ok (.if_icmp .ge 31, 3) := by decide +kernel
theorem dX12_ordersLeft_12 : decode cX12_ordersLeft 12 = .ok (.iload_n 1, 1) := by decide +kernel
theorem dX12_ordersLeft_13 : decode cX12_ordersLeft 13 = .ok (.aload_n 0, 1) := by decide +kernel
theorem dX12_ordersLeft_14 : decode cX12_ordersLeft 14 = .ok (.getfield 113, 3) := by decide +kernel
theorem dX12_ordersLeft_17 : decode cX12_ordersLeft 17 = .ok (.iload_n 3, 1) := by decide +kernel
theorem dX12_ordersLeft_18 : decode cX12_ordersLeft 18 = .ok (.iaload, 1) := by decide +kernel
theorem dX12_ordersLeft_19 : decode cX12_ordersLeft 19 = .ok (.iadd, 1) := by decide +kernel
theorem dX12_ordersLeft_20 : decode cX12_ordersLeft 20 = .ok (.istore_n 1, 1) := by decide +kernel
theorem dX12_ordersLeft_21 : decode cX12_ordersLeft 21 = .ok (.iload_n 2, 1) := by decide +kernel
theorem dX12_ordersLeft_22 : decode cX12_ordersLeft 22 = .ok (.aload_n 0, 1) := by decide +kernel
theorem dX12_ordersLeft_23 : decode cX12_ordersLeft 23 = .ok (.aload_n 0, 1) := by decide +kernel
theorem dX12_ordersLeft_24 : decode cX12_ordersLeft 24 = .ok (.getfield 113, 3) := by decide +kernel
theorem dX12_ordersLeft_27 : decode cX12_ordersLeft 27 = .ok (.iload_n 3, 1) := by decide +kernel
theorem dX12_ordersLeft_28 : decode cX12_ordersLeft 28 = .ok (.iaload, 1) := by decide +kernel
theorem dX12_ordersLeft_29 : decode cX12_ordersLeft 29 = .ok (.invokevirtual 464, 3) := by decide +kernel
theorem dX12_ordersLeft_32 : decode cX12_ordersLeft 32 = .ok (.imul, 1) := by decide +kernel
theorem dX12_ordersLeft_33 : decode cX12_ordersLeft 33 = .ok (.istore_n 2, 1) := by decide +kernel
theorem dX12_ordersLeft_34 : decode cX12_ordersLeft 34 = .ok (.iinc 3 1, 3) := by decide +kernel
theorem dX12_ordersLeft_37 : decode cX12_ordersLeft 37 = .ok (.goto (-31), 3) := by decide +kernel
theorem dX12_ordersLeft_40 : decode cX12_ordersLeft 40 = .ok (.aload_n 0, 1) := by decide +kernel
theorem dX12_ordersLeft_41 : decode cX12_ordersLeft 41 = .ok (.iload_n 1, 1) := by decide +kernel
theorem dX12_ordersLeft_42 : decode cX12_ordersLeft 42 = .ok (.invokevirtual 464, 3) := by decide +kernel
theorem dX12_ordersLeft_45 : decode cX12_ordersLeft 45 = .ok (.iload_n 2, 1) := by decide +kernel
theorem dX12_ordersLeft_46 : decode cX12_ordersLeft 46 = .ok (.idiv, 1) := by decide +kernel
theorem dX12_ordersLeft_47 : decode cX12_ordersLeft 47 = .ok (.ireturn, 1) := by decide +kernel
theorem dX12_leaves_0 : decode cX12_leaves 0 = .ok (.iconst 0, 1) := by decide +kernel
theorem dX12_leaves_1 : decode cX12_leaves 1 = .ok (.istore_n 2, 1) := by decide +kernel
theorem dX12_leaves_2 : decode cX12_leaves 2 = .ok (.iload_n 2, 1) := by decide +kernel
theorem dX12_leaves_3 : decode cX12_leaves 3 = .ok (.bipush 10, 2) := by decide +kernel
theorem dX12_leaves_5 : decode cX12_leaves 5 = .ok (.if_icmp .ge 16, 3) := by decide +kernel
theorem dX12_leaves_8 : decode cX12_leaves 8 = .ok (.aload_n 0, 1) := by decide +kernel
theorem dX12_leaves_9 : decode cX12_leaves 9 = .ok (.getfield 113, 3) := by decide +kernel
theorem dX12_leaves_12 : decode cX12_leaves 12 = .ok (.iload_n 2, 1) := by decide +kernel
theorem dX12_leaves_13 : decode cX12_leaves 13 = .ok (.iconst 0, 1) := by decide +kernel
theorem dX12_leaves_14 : decode cX12_leaves 14 = .ok (.iastore, 1) := by decide +kernel
theorem dX12_leaves_15 : decode cX12_leaves 15 = .ok (.iinc 2 1, 3) := by decide +kernel
theorem dX12_leaves_18 : decode cX12_leaves 18 = .ok (.goto (-16), 3) := by decide +kernel
theorem dX12_leaves_21 : decode cX12_leaves 21 = .ok (.iload_n 1, 1) := by decide +kernel
theorem dX12_leaves_22 : decode cX12_leaves 22 = .ok (.istore_n 2, 1) := by decide +kernel
theorem dX12_leaves_23 : decode cX12_leaves 23 = .ok (.iload_n 2, 1) := by decide +kernel
theorem dX12_leaves_24 : decode cX12_leaves 24 = .ok (.aload_n 0, 1) := by decide +kernel
theorem dX12_leaves_25 : decode cX12_leaves 25 = .ok (.getfield 461, 3) := by decide +kernel
theorem dX12_leaves_28 : decode cX12_leaves 28 = .ok (.if_icmp .ge 33, 3) := by decide +kernel
theorem dX12_leaves_31 : decode cX12_leaves 31 = .ok (.aload_n 0, 1) := by decide +kernel
theorem dX12_leaves_32 : decode cX12_leaves 32 = .ok (.getfield 113, 3) := by decide +kernel
theorem dX12_leaves_35 : decode cX12_leaves 35 = .ok (.aload_n 0, 1) := by decide +kernel
theorem dX12_leaves_36 : decode cX12_leaves 36 = .ok (.getfield 110, 3) := by decide +kernel
theorem dX12_leaves_39 : decode cX12_leaves 39 = .ok (.iload_n 2, 1) := by decide +kernel
theorem dX12_leaves_40 : decode cX12_leaves 40 = .ok (.iaload, 1) := by decide +kernel
theorem dX12_leaves_41 : decode cX12_leaves 41 = .ok (.aload_n 0, 1) := by decide +kernel
theorem dX12_leaves_42 : decode cX12_leaves 42 = .ok (.getfield 113, 3) := by decide +kernel
theorem dX12_leaves_45 : decode cX12_leaves 45 = .ok (.aload_n 0, 1) := by decide +kernel
theorem dX12_leaves_46 : decode cX12_leaves 46 = .ok (.getfield 110, 3) := by decide +kernel
theorem dX12_leaves_49 : decode cX12_leaves 49 = .ok (.iload_n 2, 1) := by decide +kernel
theorem dX12_leaves_50 : decode cX12_leaves 50 = .ok (.iaload, 1) := by decide +kernel
theorem dX12_leaves_51 : decode cX12_leaves 51 = .ok (.iaload, 1) := by decide +kernel
theorem dX12_leaves_52 : decode cX12_leaves 52 = .ok (.iconst 1, 1) := by decide +kernel
theorem dX12_leaves_53 : decode cX12_leaves 53 = .ok (.iadd, 1) := by decide +kernel
theorem dX12_leaves_54 : decode cX12_leaves 54 = .ok (.iastore, 1) := by decide +kernel
theorem dX12_leaves_55 : decode cX12_leaves 55 = .ok (.iinc 2 1, 3) := by decide +kernel
theorem dX12_leaves_58 : decode cX12_leaves 58 = .ok (.goto (-35), 3) := by decide +kernel
theorem dX12_leaves_61 : decode cX12_leaves 61 = .ok (.return_, 1) := by decide +kernel
theorem dX12_nextGreater_0 : decode cX12_nextGreater 0 = .ok (.aload_n 0, 1) := by decide +kernel
theorem dX12_nextGreater_1 : decode cX12_nextGreater 1 = .ok (.getfield 461, 3) := by decide +kernel
theorem dX12_nextGreater_4 : decode cX12_nextGreater 4 = .ok (.iconst 2, 1) := by decide +kernel
theorem dX12_nextGreater_5 : decode cX12_nextGreater 5 = .ok (.isub, 1) := by decide +kernel
theorem dX12_nextGreater_6 : decode cX12_nextGreater 6 = .ok (.istore_n 1, 1) := by decide +kernel
theorem dX12_nextGreater_7 : decode cX12_nextGreater 7 = .ok (.iload_n 1, 1) := by decide +kernel
theorem dX12_nextGreater_8 : decode cX12_nextGreater 8 = .ok (.ifCond .lt 27, 3) := by decide +kernel
theorem dX12_nextGreater_11 : decode cX12_nextGreater 11 = .ok (.aload_n 0, 1) := by decide +kernel
theorem dX12_nextGreater_12 : decode cX12_nextGreater 12 = .ok (.getfield 110, 3) := by decide +kernel
theorem dX12_nextGreater_15 : decode cX12_nextGreater 15 = .ok (.iload_n 1, 1) := by decide +kernel
theorem dX12_nextGreater_16 : decode cX12_nextGreater 16 = .ok (.iaload, 1) := by decide +kernel
theorem dX12_nextGreater_17 : decode cX12_nextGreater 17 = .ok (.aload_n 0, 1) := by decide +kernel
theorem dX12_nextGreater_18 : decode cX12_nextGreater 18 = .ok (.getfield 110, 3) := by decide +kernel
theorem dX12_nextGreater_21 : decode cX12_nextGreater 21 = .ok (.iload_n 1, 1) := by decide +kernel
theorem dX12_nextGreater_22 : decode cX12_nextGreater 22 = .ok (.iconst 1, 1) := by decide +kernel
theorem dX12_nextGreater_23 : decode cX12_nextGreater 23 = .ok (.iadd, 1) := by decide +kernel
theorem dX12_nextGreater_24 : decode cX12_nextGreater 24 = .ok (.iaload, 1) := by decide +kernel
theorem dX12_nextGreater_25 : decode cX12_nextGreater 25 = .ok (.if_icmp .lt 10, 3) := by decide +kernel
theorem dX12_nextGreater_28 : decode cX12_nextGreater 28 = .ok (.iload_n 1, 1) := by decide +kernel
theorem dX12_nextGreater_29 : decode cX12_nextGreater 29 = .ok (.iconst 1, 1) := by decide +kernel
theorem dX12_nextGreater_30 : decode cX12_nextGreater 30 = .ok (.isub, 1) := by decide +kernel
theorem dX12_nextGreater_31 : decode cX12_nextGreater 31 = .ok (.istore_n 1, 1) := by decide +kernel
theorem dX12_nextGreater_32 : decode cX12_nextGreater 32 = .ok (.goto (-25), 3) := by decide +kernel
theorem dX12_nextGreater_35 : decode cX12_nextGreater 35 = .ok (.iload_n 1, 1) := by decide +kernel
theorem dX12_nextGreater_36 : decode cX12_nextGreater 36 = .ok (.ifCond .ge 5, 3) := by decide +kernel
theorem dX12_nextGreater_39 : decode cX12_nextGreater 39 = .ok (.iconst (-1), 1) := by decide +kernel
theorem dX12_nextGreater_40 : decode cX12_nextGreater 40 = .ok (.ireturn, 1) := by decide +kernel
theorem dX12_nextGreater_41 : decode cX12_nextGreater 41 = .ok (.aload_n 0, 1) := by decide +kernel
theorem dX12_nextGreater_42 : decode cX12_nextGreater 42 = .ok (.iload_n 1, 1) := by decide +kernel
theorem dX12_nextGreater_43 : decode cX12_nextGreater 43 = .ok (.invokevirtual 467, 3) := by decide +kernel
theorem dX12_nextGreater_46 : decode cX12_nextGreater 46 = .ok (.aload_n 0, 1) := by decide +kernel
theorem dX12_nextGreater_47 : decode cX12_nextGreater 47 = .ok (.getfield 110, 3) := by decide +kernel
theorem dX12_nextGreater_50 : decode cX12_nextGreater 50 = .ok (.iload_n 1, 1) := by decide +kernel
theorem dX12_nextGreater_51 : decode cX12_nextGreater 51 = .ok (.iaload, 1) := by decide +kernel
theorem dX12_nextGreater_52 : decode cX12_nextGreater 52 = .ok (.iconst 1, 1) := by decide +kernel
theorem dX12_nextGreater_53 : decode cX12_nextGreater 53 = .ok (.iadd, 1) := by decide +kernel
theorem dX12_nextGreater_54 : decode cX12_nextGreater 54 = .ok (.istore_n 2, 1) := by decide +kernel
theorem dX12_nextGreater_55 : decode cX12_nextGreater 55 = .ok (.aload_n 0, 1) := by decide +kernel
theorem dX12_nextGreater_56 : decode cX12_nextGreater 56 = .ok (.getfield 113, 3) := by decide +kernel
theorem dX12_nextGreater_59 : decode cX12_nextGreater 59 = .ok (.iload_n 2, 1) := by decide +kernel
theorem dX12_nextGreater_60 : decode cX12_nextGreater 60 = .ok (.iaload, 1) := by decide +kernel
theorem dX12_nextGreater_61 : decode cX12_nextGreater 61 = .ok (.ifCond .ne 10, 3) := by decide +kernel
theorem dX12_nextGreater_64 : decode cX12_nextGreater 64 = .ok (.iload_n 2, 1) := by decide +kernel
theorem dX12_nextGreater_65 : decode cX12_nextGreater 65 = .ok (.iconst 1, 1) := by decide +kernel
theorem dX12_nextGreater_66 : decode cX12_nextGreater 66 = .ok (.iadd, 1) := by decide +kernel
theorem dX12_nextGreater_67 : decode cX12_nextGreater 67 = .ok (.istore_n 2, 1) := by decide +kernel
theorem dX12_nextGreater_68 : decode cX12_nextGreater 68 = .ok (.goto (-13), 3) := by decide +kernel
theorem dX12_nextGreater_71 : decode cX12_nextGreater 71 = .ok (.aload_n 0, 1) := by decide +kernel
theorem dX12_nextGreater_72 : decode cX12_nextGreater 72 = .ok (.getfield 113, 3) := by decide +kernel
theorem dX12_nextGreater_75 : decode cX12_nextGreater 75 = .ok (.iload_n 2, 1) := by decide +kernel
theorem dX12_nextGreater_76 : decode cX12_nextGreater 76 = .ok (.aload_n 0, 1) := by decide +kernel
theorem dX12_nextGreater_77 : decode cX12_nextGreater 77 = .ok (.getfield 113, 3) := by decide +kernel
theorem dX12_nextGreater_80 : decode cX12_nextGreater 80 = .ok (.iload_n 2, 1) := by decide +kernel
theorem dX12_nextGreater_81 : decode cX12_nextGreater 81 = .ok (.iaload, 1) := by decide +kernel
theorem dX12_nextGreater_82 : decode cX12_nextGreater 82 = .ok (.iconst 1, 1) := by decide +kernel
theorem dX12_nextGreater_83 : decode cX12_nextGreater 83 = .ok (.isub, 1) := by decide +kernel
theorem dX12_nextGreater_84 : decode cX12_nextGreater 84 = .ok (.iastore, 1) := by decide +kernel
theorem dX12_nextGreater_85 : decode cX12_nextGreater 85 = .ok (.iconst 0, 1) := by decide +kernel
theorem dX12_nextGreater_86 : decode cX12_nextGreater 86 = .ok (.istore_n 3, 1) := by decide +kernel
theorem dX12_nextGreater_87 : decode cX12_nextGreater 87 = .ok (.iconst 0, 1) := by decide +kernel
theorem dX12_nextGreater_88 : decode cX12_nextGreater 88 = .ok (.istore 4, 2) := by decide +kernel
theorem dX12_nextGreater_90 : decode cX12_nextGreater 90 = .ok (.iload 4, 2) := by decide +kernel
theorem dX12_nextGreater_92 : decode cX12_nextGreater 92 = .ok (.iload_n 1, 1) := by decide +kernel
theorem dX12_nextGreater_93 : decode cX12_nextGreater 93 = .ok (.if_icmp .ge 22, 3) := by decide +kernel
theorem dX12_nextGreater_96 : decode cX12_nextGreater 96 = .ok (.bipush 10, 2) := by decide +kernel
theorem dX12_nextGreater_98 : decode cX12_nextGreater 98 = .ok (.iload_n 3, 1) := by decide +kernel
theorem dX12_nextGreater_99 : decode cX12_nextGreater 99 = .ok (.imul, 1) := by decide +kernel
theorem dX12_nextGreater_100 : decode cX12_nextGreater 100 = .ok (.aload_n 0, 1) := by decide +kernel
theorem dX12_nextGreater_101 : decode cX12_nextGreater 101 = .ok (.getfield 110, 3) := by decide +kernel
theorem dX12_nextGreater_104 : decode cX12_nextGreater 104 = .ok (.iload 4, 2) := by decide +kernel
theorem dX12_nextGreater_106 : decode cX12_nextGreater 106 = .ok (.iaload, 1) := by decide +kernel
theorem dX12_nextGreater_107 : decode cX12_nextGreater 107 = .ok (.iadd, 1) := by decide +kernel
theorem dX12_nextGreater_108 : decode cX12_nextGreater 108 = .ok (.istore_n 3, 1) := by decide +kernel
theorem dX12_nextGreater_109 : decode cX12_nextGreater 109 = .ok (.iinc 4 1, 3) := by decide +kernel
theorem dX12_nextGreater_112 : decode cX12_nextGreater 112 = .ok (.goto (-22), 3) := by decide +kernel
theorem dX12_nextGreater_115 : decode cX12_nextGreater 115 = .ok (.bipush 10, 2) := by decide +kernel
theorem dX12_nextGreater_117 : decode cX12_nextGreater 117 = .ok (.iload_n 3, 1) := by decide +kernel
theorem dX12_nextGreater_118 : decode cX12_nextGreater 118 = .ok (.imul, 1) := by decide +kernel
theorem dX12_nextGreater_119 : decode cX12_nextGreater 119 = .ok (.iload_n 2, 1) := by decide +kernel
theorem dX12_nextGreater_120 : decode cX12_nextGreater 120 = .ok (.iadd, 1) := by decide +kernel
theorem dX12_nextGreater_121 : decode cX12_nextGreater 121 = .ok (.istore_n 3, 1) := by decide +kernel
theorem dX12_nextGreater_122 : decode cX12_nextGreater 122 = .ok (.iconst 0, 1) := by decide +kernel
theorem dX12_nextGreater_123 : decode cX12_nextGreater 123 = .ok (.istore 4, 2) := by decide +kernel
theorem dX12_nextGreater_125 : decode cX12_nextGreater 125 = .ok (.iload 4, 2) := by decide +kernel
theorem dX12_nextGreater_127 : decode cX12_nextGreater 127 = .ok (.bipush 10, 2) := by decide +kernel
theorem dX12_nextGreater_129 : decode cX12_nextGreater 129 = .ok (.if_icmp .ge 38, 3) := by decide +kernel
theorem dX12_nextGreater_132 : decode cX12_nextGreater 132 = .ok (.iconst 0, 1) := by decide +kernel
theorem dX12_nextGreater_133 : decode cX12_nextGreater 133 = .ok (.istore 5, 2) := by decide +kernel
theorem dX12_nextGreater_135 : decode cX12_nextGreater 135 = .ok (.iload 5, 2) := by decide +kernel
theorem dX12_nextGreater_137 : decode cX12_nextGreater 137 = .ok (.aload_n 0, 1) := by decide +kernel
theorem dX12_nextGreater_138 : decode cX12_nextGreater 138 = .ok (.getfield 113, 3) := by decide +kernel
theorem dX12_nextGreater_141 : decode cX12_nextGreater 141 = .ok (.iload 4, 2) := by decide +kernel
theorem dX12_nextGreater_143 : decode cX12_nextGreater 143 = .ok (.iaload, 1) := by decide +kernel
theorem dX12_nextGreater_144 : decode cX12_nextGreater 144 = .ok (.if_icmp .ge 17, 3) := by decide +kernel
theorem dX12_nextGreater_147 : decode cX12_nextGreater 147 = .ok (.bipush 10, 2) := by decide +kernel
theorem dX12_nextGreater_149 : decode cX12_nextGreater 149 = .ok (.iload_n 3, 1) := by decide +kernel
theorem dX12_nextGreater_150 : decode cX12_nextGreater 150 = .ok (.imul, 1) := by decide +kernel
theorem dX12_nextGreater_151 : decode cX12_nextGreater 151 = .ok (.iload 4, 2) := by decide +kernel
theorem dX12_nextGreater_153 : decode cX12_nextGreater 153 = .ok (.iadd, 1) := by decide +kernel
theorem dX12_nextGreater_154 : decode cX12_nextGreater 154 = .ok (.istore_n 3, 1) := by decide +kernel
theorem dX12_nextGreater_155 : decode cX12_nextGreater 155 = .ok (.iinc 5 1, 3) := by decide +kernel
theorem dX12_nextGreater_158 : decode cX12_nextGreater 158 = .ok (.goto (-23), 3) := by decide +kernel
theorem dX12_nextGreater_161 : decode cX12_nextGreater 161 = .ok (.iinc 4 1, 3) := by decide +kernel
theorem dX12_nextGreater_164 : decode cX12_nextGreater 164 = .ok (.goto (-39), 3) := by decide +kernel
theorem dX12_nextGreater_167 : decode cX12_nextGreater 167 = .ok (.iload_n 3, 1) := by decide +kernel
theorem dX12_nextGreater_168 : decode cX12_nextGreater 168 = .ok (.ireturn, 1) := by decide +kernel
theorem dX12_ahead_0 : decode cX12_ahead 0 = .ok (.iconst 0, 1) := by decide +kernel
theorem dX12_ahead_1 : decode cX12_ahead 1 = .ok (.istore_n 1, 1) := by decide +kernel
theorem dX12_ahead_2 : decode cX12_ahead 2 = .ok (.iconst 0, 1) := by decide +kernel
theorem dX12_ahead_3 : decode cX12_ahead 3 = .ok (.istore_n 2, 1) := by decide +kernel
theorem dX12_ahead_4 : decode cX12_ahead 4 = .ok (.iload_n 2, 1) := by decide +kernel
theorem dX12_ahead_5 : decode cX12_ahead 5 = .ok (.aload_n 0, 1) := by decide +kernel
theorem dX12_ahead_6 : decode cX12_ahead 6 = .ok (.getfield 461, 3) := by decide +kernel
theorem dX12_ahead_9 : decode cX12_ahead 9 = .ok (.if_icmp .ge 79, 3) := by decide +kernel
theorem dX12_ahead_12 : decode cX12_ahead 12 = .ok (.aload_n 0, 1) := by decide +kernel
theorem dX12_ahead_13 : decode cX12_ahead 13 = .ok (.iload_n 2, 1) := by decide +kernel
theorem dX12_ahead_14 : decode cX12_ahead 14 = .ok (.invokevirtual 467, 3) := by decide +kernel
theorem dX12_ahead_17 : decode cX12_ahead 17 = .ok (.iconst 0, 1) := by decide +kernel
theorem dX12_ahead_18 : decode cX12_ahead 18 = .ok (.istore_n 3, 1) := by decide +kernel
theorem dX12_ahead_19 : decode cX12_ahead 19 = .ok (.iload_n 3, 1) := by decide +kernel
theorem dX12_ahead_20 : decode cX12_ahead 20 = .ok (.aload_n 0, 1) := by decide +kernel
theorem dX12_ahead_21 : decode cX12_ahead 21 = .ok (.getfield 110, 3) := by decide +kernel
theorem dX12_ahead_24 : decode cX12_ahead 24 = .ok (.iload_n 2, 1) := by decide +kernel
theorem dX12_ahead_25 : decode cX12_ahead 25 = .ok (.iaload, 1) := by decide +kernel
theorem dX12_ahead_26 : decode cX12_ahead 26 = .ok (.if_icmp .ge 56, 3) := by decide +kernel
theorem dX12_ahead_29 : decode cX12_ahead 29 = .ok (.aload_n 0, 1) := by decide +kernel
theorem dX12_ahead_30 : decode cX12_ahead 30 = .ok (.getfield 113, 3) := by decide +kernel
theorem dX12_ahead_33 : decode cX12_ahead 33 = .ok (.iload_n 3, 1) := by decide +kernel
theorem dX12_ahead_34 : decode cX12_ahead 34 = .ok (.iaload, 1) := by decide +kernel
theorem dX12_ahead_35 : decode cX12_ahead 35 = .ok (.ifCond .ne 6, 3) := by decide +kernel
theorem dX12_ahead_38 : decode cX12_ahead 38 = .ok (.goto 38, 3) := by decide +kernel
theorem dX12_ahead_41 : decode cX12_ahead 41 = .ok (.aload_n 0, 1) := by decide +kernel
theorem dX12_ahead_42 : decode cX12_ahead 42 = .ok (.getfield 113, 3) := by decide +kernel
theorem dX12_ahead_45 : decode cX12_ahead 45 = .ok (.iload_n 3, 1) := by decide +kernel
theorem dX12_ahead_46 : decode cX12_ahead 46 = .ok (.aload_n 0, 1) := by decide +kernel
theorem dX12_ahead_47 : decode cX12_ahead 47 = .ok (.getfield 113, 3) := by decide +kernel
theorem dX12_ahead_50 : decode cX12_ahead 50 = .ok (.iload_n 3, 1) := by decide +kernel
theorem dX12_ahead_51 : decode cX12_ahead 51 = .ok (.iaload, 1) := by decide +kernel
theorem dX12_ahead_52 : decode cX12_ahead 52 = .ok (.iconst 1, 1) := by decide +kernel
theorem dX12_ahead_53 : decode cX12_ahead 53 = .ok (.isub, 1) := by decide +kernel
theorem dX12_ahead_54 : decode cX12_ahead 54 = .ok (.iastore, 1) := by decide +kernel
theorem dX12_ahead_55 : decode cX12_ahead 55 = .ok (.iload_n 1, 1) := by decide +kernel
theorem dX12_ahead_56 : decode cX12_ahead 56 = .ok (.aload_n 0, 1) := by decide +kernel
theorem dX12_ahead_57 : decode cX12_ahead 57 = .ok (.invokevirtual 470, 3) := by decide +kernel
theorem dX12_ahead_60 : decode cX12_ahead 60 = .ok (.iadd, 1) := by decide +kernel
theorem dX12_ahead_61 : decode cX12_ahead 61 = .ok (.istore_n 1, 1) := by decide +kernel
theorem dX12_ahead_62 : decode cX12_ahead 62 = .ok (.aload_n 0, 1) := by decide +kernel
theorem dX12_ahead_63 : decode cX12_ahead 63 = .ok (.getfield 113, 3) := by decide +kernel
theorem dX12_ahead_66 : decode cX12_ahead 66 = .ok (.iload_n 3, 1) := by decide +kernel
theorem dX12_ahead_67 : decode cX12_ahead 67 = .ok (.aload_n 0, 1) := by decide +kernel
theorem dX12_ahead_68 : decode cX12_ahead 68 = .ok (.getfield 113, 3) := by decide +kernel
theorem dX12_ahead_71 : decode cX12_ahead 71 = .ok (.iload_n 3, 1) := by decide +kernel
theorem dX12_ahead_72 : decode cX12_ahead 72 = .ok (.iaload, 1) := by decide +kernel
theorem dX12_ahead_73 : decode cX12_ahead 73 = .ok (.iconst 1, 1) := by decide +kernel
theorem dX12_ahead_74 : decode cX12_ahead 74 = .ok (.iadd, 1) := by decide +kernel
theorem dX12_ahead_75 : decode cX12_ahead 75 = .ok (.iastore, 1) := by decide +kernel
theorem dX12_ahead_76 : decode cX12_ahead 76 = .ok (.iinc 3 1, 3) := by decide +kernel
theorem dX12_ahead_79 : decode cX12_ahead 79 = .ok (.goto (-60), 3) := by decide +kernel
theorem dX12_ahead_82 : decode cX12_ahead 82 = .ok (.iinc 2 1, 3) := by decide +kernel
theorem dX12_ahead_85 : decode cX12_ahead 85 = .ok (.goto (-81), 3) := by decide +kernel
theorem dX12_ahead_88 : decode cX12_ahead 88 = .ok (.iload_n 1, 1) := by decide +kernel
theorem dX12_ahead_89 : decode cX12_ahead 89 = .ok (.ireturn, 1) := by decide +kernel
theorem dX12_order_0 : decode cX12_order 0 = .ok (.aload_n 0, 1) := by decide +kernel
theorem dX12_order_1 : decode cX12_order 1 = .ok (.iconst 0, 1) := by decide +kernel
theorem dX12_order_2 : decode cX12_order 2 = .ok (.putfield 140, 3) := by decide +kernel
theorem dX12_order_5 : decode cX12_order 5 = .ok (.iload_n 1, 1) := by decide +kernel
theorem dX12_order_6 : decode cX12_order 6 = .ok (.ifCond .ne 8, 3) := by decide +kernel
theorem dX12_order_9 : decode cX12_order 9 = .ok (.aload_n 0, 1) := by decide +kernel
theorem dX12_order_10 : decode cX12_order 10 = .ok (.invokevirtual 473, 3) := by decide +kernel
theorem dX12_order_13 : decode cX12_order 13 = .ok (.ireturn, 1) := by decide +kernel
theorem dX12_order_14 : decode cX12_order 14 = .ok (.iload_n 1, 1) := by decide +kernel
theorem dX12_order_15 : decode cX12_order 15 = .ok (.iconst 1, 1) := by decide +kernel
theorem dX12_order_16 : decode cX12_order 16 = .ok (.if_icmp .ne 8, 3) := by decide +kernel
theorem dX12_order_19 : decode cX12_order 19 = .ok (.aload_n 0, 1) := by decide +kernel
theorem dX12_order_20 : decode cX12_order 20 = .ok (.invokevirtual 476, 3) := by decide +kernel
theorem dX12_order_23 : decode cX12_order 23 = .ok (.ireturn, 1) := by decide +kernel
theorem dX12_order_24 : decode cX12_order 24 = .ok (.aload_n 0, 1) := by decide +kernel
theorem dX12_order_25 : decode cX12_order 25 = .ok (.iconst 0, 1) := by decide +kernel
theorem dX12_order_26 : decode cX12_order 26 = .ok (.invokevirtual 467, 3) := by decide +kernel
theorem dX12_order_29 : decode cX12_order 29 = .ok (.iload_n 1, 1) := by decide +kernel
theorem dX12_order_30 : decode cX12_order 30 = .ok (.iconst 2, 1) := by decide +kernel
theorem dX12_order_31 : decode cX12_order 31 = .ok (.if_icmp .ne 10, 3) := by decide +kernel
theorem dX12_order_34 : decode cX12_order 34 = .ok (.aload_n 0, 1) := by decide +kernel
theorem dX12_order_35 : decode cX12_order 35 = .ok (.invokevirtual 470, 3) := by decide +kernel
theorem dX12_order_38 : decode cX12_order 38 = .ok (.goto 4, 3) := by decide +kernel
theorem dX12_order_41 : decode cX12_order 41 = .ok (.iconst (-1), 1) := by decide +kernel
theorem dX12_order_42 : decode cX12_order 42 = .ok (.ireturn, 1) := by decide +kernel
theorem dX12_sign_0 : decode cX12_sign 0 = .ok (.aload_n 0, 1) := by decide +kernel
theorem dX12_sign_1 : decode cX12_sign 1 = .ok (.iconst 0, 1) := by decide +kernel
theorem dX12_sign_2 : decode cX12_sign 2 = .ok (.putfield 140, 3) := by decide +kernel
theorem dX12_sign_5 : decode cX12_sign 5 = .ok (.iload_n 1, 1) := by decide +kernel
theorem dX12_sign_6 : decode cX12_sign 6 = .ok (.iconst (-1), 1) := by decide +kernel
theorem dX12_sign_7 : decode cX12_sign 7 = .ok (.if_icmp .ne 10, 3) := by decide +kernel
theorem dX12_sign_10 : decode cX12_sign 10 = .ok (.aload_n 0, 1) := by decide +kernel
theorem dX12_sign_11 : decode cX12_sign 11 = .ok (.iconst 0, 1) := by decide +kernel
theorem dX12_sign_12 : decode cX12_sign 12 = .ok (.putfield 479, 3) := by decide +kernel
theorem dX12_sign_15 : decode cX12_sign 15 = .ok (.iconst 0, 1) := by decide +kernel
theorem dX12_sign_16 : decode cX12_sign 16 = .ok (.ireturn, 1) := by decide +kernel
theorem dX12_sign_17 : decode cX12_sign 17 = .ok (.aload_n 0, 1) := by decide +kernel
theorem dX12_sign_18 : decode cX12_sign 18 = .ok (.iload_n 1, 1) := by decide +kernel
theorem dX12_sign_19 : decode cX12_sign 19 = .ok (.iconst 0, 1) := by decide +kernel
theorem dX12_sign_20 : decode cX12_sign 20 = .ok (.bipush 14, 2) := by decide +kernel
theorem dX12_sign_22 : decode cX12_sign 22 = .ok (.invokevirtual 165, 3) := by decide +kernel
theorem dX12_sign_25 : decode cX12_sign 25 = .ok (.ifCond .eq 12, 3) := by decide +kernel
theorem dX12_sign_28 : decode cX12_sign 28 = .ok (.aload_n 0, 1) := by decide +kernel
theorem dX12_sign_29 : decode cX12_sign 29 = .ok (.getfield 479, 3) := by decide +kernel
theorem dX12_sign_32 : decode cX12_sign 32 = .ok (.bipush 12, 2) := by decide +kernel
theorem dX12_sign_34 : decode cX12_sign 34 = .ok (.if_icmp .ne 5, 3) := by decide +kernel
theorem dX12_sign_37 : decode cX12_sign 37 = .ok (.iconst (-1), 1) := by decide +kernel
theorem dX12_sign_38 : decode cX12_sign 38 = .ok (.ireturn, 1) := by decide +kernel
theorem dX12_sign_39 : decode cX12_sign 39 = .ok (.aload_n 0, 1) := by decide +kernel
theorem dX12_sign_40 : decode cX12_sign 40 = .ok (.getfield 116, 3) := by decide +kernel
theorem dX12_sign_43 : decode cX12_sign 43 = .ok (.aload_n 0, 1) := by decide +kernel
theorem dX12_sign_44 : decode cX12_sign 44 = .ok (.getfield 479, 3) := by decide +kernel
theorem dX12_sign_47 : decode cX12_sign 47 = .ok (.iload_n 1, 1) := by decide +kernel
theorem dX12_sign_48 : decode cX12_sign 48 = .ok (.iastore, 1) := by decide +kernel
theorem dX12_sign_49 : decode cX12_sign 49 = .ok (.aload_n 0, 1) := by decide +kernel
theorem dX12_sign_50 : decode cX12_sign 50 = .ok (.aload_n 0, 1) := by decide +kernel
theorem dX12_sign_51 : decode cX12_sign 51 = .ok (.getfield 479, 3) := by decide +kernel
theorem dX12_sign_54 : decode cX12_sign 54 = .ok (.iconst 1, 1) := by decide +kernel
theorem dX12_sign_55 : decode cX12_sign 55 = .ok (.iadd, 1) := by decide +kernel
theorem dX12_sign_56 : decode cX12_sign 56 = .ok (.putfield 479, 3) := by decide +kernel
theorem dX12_sign_59 : decode cX12_sign 59 = .ok (.aload_n 0, 1) := by decide +kernel
theorem dX12_sign_60 : decode cX12_sign 60 = .ok (.getfield 479, 3) := by decide +kernel
theorem dX12_sign_63 : decode cX12_sign 63 = .ok (.ireturn, 1) := by decide +kernel
theorem dX12_lays_0 : decode cX12_lays 0 = .ok (.iload_n 1, 1) := by decide +kernel
theorem dX12_lays_1 : decode cX12_lays 1 = .ok (.bipush 10, 2) := by decide +kernel
theorem dX12_lays_3 : decode cX12_lays 3 = .ok (.if_icmp .ge 14, 3) := by decide +kernel
theorem dX12_lays_6 : decode cX12_lays 6 = .ok (.aload_n 0, 1) := by decide +kernel
theorem dX12_lays_7 : decode cX12_lays 7 = .ok (.getfield 119, 3) := by decide +kernel
theorem dX12_lays_10 : decode cX12_lays 10 = .ok (.iload_n 2, 1) := by decide +kernel
theorem dX12_lays_11 : decode cX12_lays 11 = .ok (.iload_n 1, 1) := by decide +kernel
theorem dX12_lays_12 : decode cX12_lays 12 = .ok (.iastore, 1) := by decide +kernel
theorem dX12_lays_13 : decode cX12_lays 13 = .ok (.iload_n 2, 1) := by decide +kernel
theorem dX12_lays_14 : decode cX12_lays 14 = .ok (.iconst 1, 1) := by decide +kernel
theorem dX12_lays_15 : decode cX12_lays 15 = .ok (.iadd, 1) := by decide +kernel
theorem dX12_lays_16 : decode cX12_lays 16 = .ok (.ireturn, 1) := by decide +kernel
theorem dX12_lays_17 : decode cX12_lays 17 = .ok (.iload_n 2, 1) := by decide +kernel
theorem dX12_lays_18 : decode cX12_lays 18 = .ok (.iload_n 1, 1) := by decide +kernel
theorem dX12_lays_19 : decode cX12_lays 19 = .ok (.bipush 13, 2) := by decide +kernel
theorem dX12_lays_21 : decode cX12_lays 21 = .ok (.if_icmp .ne 7, 3) := by decide +kernel
theorem dX12_lays_24 : decode cX12_lays 24 = .ok (.iconst 1, 1) := by decide +kernel
theorem dX12_lays_25 : decode cX12_lays 25 = .ok (.goto 4, 3) := by decide +kernel
theorem dX12_lays_28 : decode cX12_lays 28 = .ok (.iconst 2, 1) := by decide +kernel
theorem dX12_lays_29 : decode cX12_lays 29 = .ok (.if_icmp .ge 5, 3) := by decide +kernel
theorem dX12_lays_32 : decode cX12_lays 32 = .ok (.iconst (-1), 1) := by decide +kernel
theorem dX12_lays_33 : decode cX12_lays 33 = .ok (.ireturn, 1) := by decide +kernel
theorem dX12_lays_34 : decode cX12_lays 34 = .ok (.iload_n 1, 1) := by decide +kernel
theorem dX12_lays_35 : decode cX12_lays 35 = .ok (.bipush 13, 2) := by decide +kernel
theorem dX12_lays_37 : decode cX12_lays 37 = .ok (.if_icmp .ne 21, 3) := by decide +kernel
theorem dX12_lays_40 : decode cX12_lays 40 = .ok (.aload_n 0, 1) := by decide +kernel
theorem dX12_lays_41 : decode cX12_lays 41 = .ok (.getfield 119, 3) := by decide +kernel
theorem dX12_lays_44 : decode cX12_lays 44 = .ok (.iload_n 2, 1) := by decide +kernel
theorem dX12_lays_45 : decode cX12_lays 45 = .ok (.aload_n 0, 1) := by decide +kernel
theorem dX12_lays_46 : decode cX12_lays 46 = .ok (.getfield 119, 3) := by decide +kernel
theorem dX12_lays_49 : decode cX12_lays 49 = .ok (.iload_n 2, 1) := by decide +kernel
theorem dX12_lays_50 : decode cX12_lays 50 = .ok (.iconst 1, 1) := by decide +kernel
theorem dX12_lays_51 : decode cX12_lays 51 = .ok (.isub, 1) := by decide +kernel
theorem dX12_lays_52 : decode cX12_lays 52 = .ok (.iaload, 1) := by decide +kernel
theorem dX12_lays_53 : decode cX12_lays 53 = .ok (.iastore, 1) := by decide +kernel
theorem dX12_lays_54 : decode cX12_lays 54 = .ok (.iload_n 2, 1) := by decide +kernel
theorem dX12_lays_55 : decode cX12_lays 55 = .ok (.iconst 1, 1) := by decide +kernel
theorem dX12_lays_56 : decode cX12_lays 56 = .ok (.iadd, 1) := by decide +kernel
theorem dX12_lays_57 : decode cX12_lays 57 = .ok (.ireturn, 1) := by decide +kernel
theorem dX12_lays_58 : decode cX12_lays 58 = .ok (.aload_n 0, 1) := by decide +kernel
theorem dX12_lays_59 : decode cX12_lays 59 = .ok (.getfield 119, 3) := by decide +kernel
theorem dX12_lays_62 : decode cX12_lays 62 = .ok (.iload_n 2, 1) := by decide +kernel
theorem dX12_lays_63 : decode cX12_lays 63 = .ok (.iconst 1, 1) := by decide +kernel
theorem dX12_lays_64 : decode cX12_lays 64 = .ok (.isub, 1) := by decide +kernel
theorem dX12_lays_65 : decode cX12_lays 65 = .ok (.iaload, 1) := by decide +kernel
theorem dX12_lays_66 : decode cX12_lays 66 = .ok (.istore_n 3, 1) := by decide +kernel
theorem dX12_lays_67 : decode cX12_lays 67 = .ok (.aload_n 0, 1) := by decide +kernel
theorem dX12_lays_68 : decode cX12_lays 68 = .ok (.getfield 119, 3) := by decide +kernel
theorem dX12_lays_71 : decode cX12_lays 71 = .ok (.iload_n 2, 1) := by decide +kernel
theorem dX12_lays_72 : decode cX12_lays 72 = .ok (.iconst 2, 1) := by decide +kernel
theorem dX12_lays_73 : decode cX12_lays 73 = .ok (.isub, 1) := by decide +kernel
theorem dX12_lays_74 : decode cX12_lays 74 = .ok (.iaload, 1) := by decide +kernel
theorem dX12_lays_75 : decode cX12_lays 75 = .ok (.istore 4, 2) := by decide +kernel
theorem dX12_lays_77 : decode cX12_lays 77 = .ok (.aload_n 0, 1) := by decide +kernel
theorem dX12_lays_78 : decode cX12_lays 78 = .ok (.getfield 119, 3) := by decide +kernel
theorem dX12_lays_81 : decode cX12_lays 81 = .ok (.iload_n 2, 1) := by decide +kernel
theorem dX12_lays_82 : decode cX12_lays 82 = .ok (.iconst 2, 1) := by decide +kernel
theorem dX12_lays_83 : decode cX12_lays 83 = .ok (.isub, 1) := by decide +kernel
theorem dX12_lays_84 : decode cX12_lays 84 = .ok (.iload_n 1, 1) := by decide +kernel
theorem dX12_lays_85 : decode cX12_lays 85 = .ok (.bipush 10, 2) := by decide +kernel
theorem dX12_lays_87 : decode cX12_lays 87 = .ok (.if_icmp .ne 10, 3) := by decide +kernel
theorem dX12_lays_90 : decode cX12_lays 90 = .ok (.iload 4, 2) := by decide +kernel
theorem dX12_lays_92 : decode cX12_lays 92 = .ok (.iload_n 3, 1) := by decide +kernel
theorem dX12_lays_93 : decode cX12_lays 93 = .ok (.iadd, 1) := by decide +kernel
theorem dX12_lays_94 : decode cX12_lays 94 = .ok (.goto 30, 3) := by decide +kernel
theorem dX12_lays_97 : decode cX12_lays 97 = .ok (.iload_n 1, 1) := by decide +kernel
theorem dX12_lays_98 : decode cX12_lays 98 = .ok (.bipush 11, 2) := by decide +kernel
theorem dX12_lays_100 : decode cX12_lays 100 = .ok (.if_icmp .ne 10, 3) := by decide +kernel
theorem dX12_lays_103 : decode cX12_lays 103 = .ok (.iload 4, 2) := by decide +kernel
theorem dX12_lays_105 : decode cX12_lays 105 = .ok (.iload_n 3, 1) := by decide +kernel
theorem dX12_lays_106 : decode cX12_lays 106 = .ok (.isub, 1) := by decide +kernel
theorem dX12_lays_107 : decode cX12_lays 107 = .ok (.goto 17, 3) := by decide +kernel
theorem dX12_lays_110 : decode cX12_lays 110 = .ok (.iload_n 1, 1) := by decide +kernel
theorem dX12_lays_111 : decode cX12_lays 111 = .ok (.bipush 12, 2) := by decide +kernel
theorem dX12_lays_113 : decode cX12_lays 113 = .ok (.if_icmp .ne 10, 3) := by decide +kernel
theorem dX12_lays_116 : decode cX12_lays 116 = .ok (.iload 4, 2) := by decide +kernel
theorem dX12_lays_118 : decode cX12_lays 118 = .ok (.iload_n 3, 1) := by decide +kernel
theorem dX12_lays_119 : decode cX12_lays 119 = .ok (.imul, 1) := by decide +kernel
theorem dX12_lays_120 : decode cX12_lays 120 = .ok (.goto 4, 3) := by decide +kernel
theorem dX12_lays_123 : decode cX12_lays 123 = .ok (.iload_n 3, 1) := by decide +kernel
theorem dX12_lays_124 : decode cX12_lays 124 = .ok (.iastore, 1) := by decide +kernel
theorem dX12_lays_125 : decode cX12_lays 125 = .ok (.aload_n 0, 1) := by decide +kernel
theorem dX12_lays_126 : decode cX12_lays 126 = .ok (.getfield 119, 3) := by decide +kernel
theorem dX12_lays_129 : decode cX12_lays 129 = .ok (.iload_n 2, 1) := by decide +kernel
theorem dX12_lays_130 : decode cX12_lays 130 = .ok (.iconst 1, 1) := by decide +kernel
theorem dX12_lays_131 : decode cX12_lays 131 = .ok (.isub, 1) := by decide +kernel
theorem dX12_lays_132 : decode cX12_lays 132 = .ok (.iload 4, 2) := by decide +kernel
theorem dX12_lays_134 : decode cX12_lays 134 = .ok (.iastore, 1) := by decide +kernel
theorem dX12_lays_135 : decode cX12_lays 135 = .ok (.iload_n 1, 1) := by decide +kernel
theorem dX12_lays_136 : decode cX12_lays 136 = .ok (.bipush 14, 2) := by decide +kernel
theorem dX12_lays_138 : decode cX12_lays 138 = .ok (.if_icmp .ne 7, 3) := by decide +kernel
theorem dX12_lays_141 : decode cX12_lays 141 = .ok (.iload_n 2, 1) := by decide +kernel
theorem dX12_lays_142 : decode cX12_lays 142 = .ok (.goto 6, 3) := by decide +kernel
theorem dX12_lays_145 : decode cX12_lays 145 = .ok (.iload_n 2, 1) := by decide +kernel
theorem dX12_lays_146 : decode cX12_lays 146 = .ok (.iconst 1, 1) := by decide +kernel
theorem dX12_lays_147 : decode cX12_lays 147 = .ok (.isub, 1) := by decide +kernel
theorem dX12_lays_148 : decode cX12_lays 148 = .ok (.ireturn, 1) := by decide +kernel
theorem dX12_stack_0 : decode cX12_stack 0 = .ok (.aload_n 0, 1) := by decide +kernel
theorem dX12_stack_1 : decode cX12_stack 1 = .ok (.iconst 0, 1) := by decide +kernel
theorem dX12_stack_2 : decode cX12_stack 2 = .ok (.putfield 140, 3) := by decide +kernel
theorem dX12_stack_5 : decode cX12_stack 5 = .ok (.aload_n 0, 1) := by decide +kernel
theorem dX12_stack_6 : decode cX12_stack 6 = .ok (.iload_n 1, 1) := by decide +kernel
theorem dX12_stack_7 : decode cX12_stack 7 = .ok (.iconst 0, 1) := by decide +kernel
theorem dX12_stack_8 : decode cX12_stack 8 = .ok (.iconst 2, 1) := by decide +kernel
theorem dX12_stack_9 : decode cX12_stack 9 = .ok (.invokevirtual 165, 3) := by decide +kernel
theorem dX12_stack_12 : decode cX12_stack 12 = .ok (.ifCond .ne 6, 3) := by decide +kernel
theorem dX12_stack_15 : decode cX12_stack 15 = .ok (.bipush (-100), 2) := by decide +kernel
theorem dX12_stack_17 : decode cX12_stack 17 = .ok (.ireturn, 1) := by decide +kernel
theorem dX12_stack_18 : decode cX12_stack 18 = .ok (.iconst 0, 1) := by decide +kernel
theorem dX12_stack_19 : decode cX12_stack 19 = .ok (.istore_n 2, 1) := by decide +kernel
theorem dX12_stack_20 : decode cX12_stack 20 = .ok (.iconst (-1), 1) := by decide +kernel
theorem dX12_stack_21 : decode cX12_stack 21 = .ok (.istore_n 3, 1) := by decide +kernel
theorem dX12_stack_22 : decode cX12_stack 22 = .ok (.iconst 0, 1) := by decide +kernel
theorem dX12_stack_23 : decode cX12_stack 23 = .ok (.istore 4, 2) := by decide +kernel
theorem dX12_stack_25 : decode cX12_stack 25 = .ok (.iload 4, 2) := by decide +kernel
theorem dX12_stack_27 : decode cX12_stack 27 = .ok (.aload_n 0, 1) := by decide +kernel
theorem dX12_stack_28 : decode cX12_stack 28 = .ok (.getfield 479, 3) := by decide +kernel
theorem dX12_stack_31 : decode cX12_stack 31 = .ok (.if_icmp .ge 43, 3) := by decide +kernel
theorem dX12_stack_34 : decode cX12_stack 34 = .ok (.iload_n 3, 1) := by decide +kernel
theorem dX12_stack_35 : decode cX12_stack 35 = .ok (.iconst (-1), 1) := by decide +kernel
theorem dX12_stack_36 : decode cX12_stack 36 = .ok (.if_icmp .ne 38, 3) := by decide +kernel
theorem dX12_stack_39 : decode cX12_stack 39 = .ok (.aload_n 0, 1) := by decide +kernel
theorem dX12_stack_40 : decode cX12_stack 40 = .ok (.aload_n 0, 1) := by decide +kernel
theorem dX12_stack_41 : decode cX12_stack 41 = .ok (.getfield 116, 3) := by decide +kernel
theorem dX12_stack_44 : decode cX12_stack 44 = .ok (.iload 4, 2) := by decide +kernel
theorem dX12_stack_46 : decode cX12_stack 46 = .ok (.iaload, 1) := by decide +kernel
theorem dX12_stack_47 : decode cX12_stack 47 = .ok (.iload_n 2, 1) := by decide +kernel
theorem dX12_stack_48 : decode cX12_stack 48 = .ok (.invokevirtual 482, 3) := by decide +kernel
theorem dX12_stack_51 : decode cX12_stack 51 = .ok (.istore 5, 2) := by decide +kernel
theorem dX12_stack_53 : decode cX12_stack 53 = .ok (.iload 5, 2) := by decide +kernel
theorem dX12_stack_55 : decode cX12_stack 55 = .ok (.iconst (-1), 1) := by decide +kernel
theorem dX12_stack_56 : decode cX12_stack 56 = .ok (.if_icmp .ne 9, 3) := by decide +kernel
theorem dX12_stack_59 : decode cX12_stack 59 = .ok (.iload 4, 2) := by decide +kernel
theorem dX12_stack_61 : decode cX12_stack 61 = .ok (.istore_n 3, 1) := by decide +kernel
theorem dX12_stack_62 : decode cX12_stack 62 = .ok (.goto 6, 3) := by decide +kernel
theorem dX12_stack_65 : decode cX12_stack 65 = .ok (.iload 5, 2) := by decide +kernel
theorem dX12_stack_67 : decode cX12_stack 67 = .ok (.istore_n 2, 1) := by decide +kernel
theorem dX12_stack_68 : decode cX12_stack 68 = .ok (.iinc 4 1, 3) := by decide +kernel
theorem dX12_stack_71 : decode cX12_stack 71 = .ok (.goto (-46), 3) := by decide +kernel
theorem dX12_stack_74 : decode cX12_stack 74 = .ok (.iload_n 1, 1) := by decide +kernel
theorem dX12_stack_75 : decode cX12_stack 75 = .ok (.ifCond .ne 22, 3) := by decide +kernel
theorem dX12_stack_78 : decode cX12_stack 78 = .ok (.iload_n 2, 1) := by decide +kernel
theorem dX12_stack_79 : decode cX12_stack 79 = .ok (.ifCond .ne 7, 3) := by decide +kernel
theorem dX12_stack_82 : decode cX12_stack 82 = .ok (.iconst 0, 1) := by decide +kernel
theorem dX12_stack_83 : decode cX12_stack 83 = .ok (.goto 24, 3) := by decide +kernel
theorem dX12_stack_86 : decode cX12_stack 86 = .ok (.aload_n 0, 1) := by decide +kernel
theorem dX12_stack_87 : decode cX12_stack 87 = .ok (.getfield 119, 3) := by decide +kernel
theorem dX12_stack_90 : decode cX12_stack 90 = .ok (.iload_n 2, 1) := by decide +kernel
theorem dX12_stack_91 : decode cX12_stack 91 = .ok (.iconst 1, 1) := by decide +kernel
theorem dX12_stack_92 : decode cX12_stack 92 = .ok (.isub, 1) := by decide +kernel
theorem dX12_stack_93 : decode cX12_stack 93 = .ok (.iaload, 1) := by decide +kernel
theorem dX12_stack_94 : decode cX12_stack 94 = .ok (.goto 13, 3) := by decide +kernel
theorem dX12_stack_97 : decode cX12_stack 97 = .ok (.iload_n 1, 1) := by decide +kernel
theorem dX12_stack_98 : decode cX12_stack 98 = .ok (.iconst 1, 1) := by decide +kernel
theorem dX12_stack_99 : decode cX12_stack 99 = .ok (.if_icmp .ne 7, 3) := by decide +kernel
theorem dX12_stack_102 : decode cX12_stack 102 = .ok (.iload_n 2, 1) := by decide +kernel
theorem dX12_stack_103 : decode cX12_stack 103 = .ok (.goto 4, 3) := by decide +kernel
theorem dX12_stack_106 : decode cX12_stack 106 = .ok (.iload_n 3, 1) := by decide +kernel
theorem dX12_stack_107 : decode cX12_stack 107 = .ok (.ireturn, 1) := by decide +kernel
theorem dX12_strung_0 : decode cX12_strung 0 = .ok (.aload_n 0, 1) := by decide +kernel
theorem dX12_strung_1 : decode cX12_strung 1 = .ok (.iconst 0, 1) := by decide +kernel
