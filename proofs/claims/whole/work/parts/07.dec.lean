theorem dX12_strung_2 : decode cX12_strung 2 = .ok (.putfield 140, 3) := by decide +kernel
theorem dX12_strung_5 : decode cX12_strung 5 = .ok (.aload_n 0, 1) := by decide +kernel
theorem dX12_strung_6 : decode cX12_strung 6 = .ok (.iload_n 1, 1) := by decide +kernel
theorem dX12_strung_7 : decode cX12_strung 7 = .ok (.iconst 0, 1) := by decide +kernel
theorem dX12_strung_8 : decode cX12_strung 8 = .ok (.sipush 9999, 3) := by decide +kernel
theorem dX12_strung_11 : decode cX12_strung 11 = .ok (.invokevirtual 165, 3) := by decide +kernel
theorem dX12_strung_14 : decode cX12_strung 14 = .ok (.ifCond .eq 13, 3) := by decide +kernel
theorem dX12_strung_17 : decode cX12_strung 17 = .ok (.aload_n 0, 1) := by decide +kernel
theorem dX12_strung_18 : decode cX12_strung 18 = .ok (.iload_n 2, 1) := by decide +kernel
theorem dX12_strung_19 : decode cX12_strung 19 = .ok (.iconst 0, 1) := by decide +kernel
theorem dX12_strung_20 : decode cX12_strung 20 = .ok (.iconst 1, 1) := by decide +kernel
theorem dX12_strung_21 : decode cX12_strung 21 = .ok (.invokevirtual 165, 3) := by decide +kernel
theorem dX12_strung_24 : decode cX12_strung 24 = .ok (.ifCond .ne 5, 3) := by decide +kernel
theorem dX12_strung_27 : decode cX12_strung 27 = .ok (.iconst (-1), 1) := by decide +kernel
theorem dX12_strung_28 : decode cX12_strung 28 = .ok (.ireturn, 1) := by decide +kernel
theorem dX12_strung_29 : decode cX12_strung 29 = .ok (.aload_n 0, 1) := by decide +kernel
theorem dX12_strung_30 : decode cX12_strung 30 = .ok (.getfield 122, 3) := by decide +kernel
theorem dX12_strung_33 : decode cX12_strung 33 = .ok (.iconst 0, 1) := by decide +kernel
theorem dX12_strung_34 : decode cX12_strung 34 = .ok (.iconst 1, 1) := by decide +kernel
theorem dX12_strung_35 : decode cX12_strung 35 = .ok (.iastore, 1) := by decide +kernel
theorem dX12_strung_36 : decode cX12_strung 36 = .ok (.aload_n 0, 1) := by decide +kernel
theorem dX12_strung_37 : decode cX12_strung 37 = .ok (.getfield 122, 3) := by decide +kernel
theorem dX12_strung_40 : decode cX12_strung 40 = .ok (.iconst 1, 1) := by decide +kernel
theorem dX12_strung_41 : decode cX12_strung 41 = .ok (.iconst 2, 1) := by decide +kernel
theorem dX12_strung_42 : decode cX12_strung 42 = .ok (.iastore, 1) := by decide +kernel
theorem dX12_strung_43 : decode cX12_strung 43 = .ok (.iconst 2, 1) := by decide +kernel
theorem dX12_strung_44 : decode cX12_strung 44 = .ok (.istore_n 3, 1) := by decide +kernel
theorem dX12_strung_45 : decode cX12_strung 45 = .ok (.iload_n 3, 1) := by decide +kernel
theorem dX12_strung_46 : decode cX12_strung 46 = .ok (.bipush 20, 2) := by decide +kernel
theorem dX12_strung_48 : decode cX12_strung 48 = .ok (.if_icmp .ge 32, 3) := by decide +kernel
theorem dX12_strung_51 : decode cX12_strung 51 = .ok (.aload_n 0, 1) := by decide +kernel
theorem dX12_strung_52 : decode cX12_strung 52 = .ok (.getfield 122, 3) := by decide +kernel
theorem dX12_strung_55 : decode cX12_strung 55 = .ok (.iload_n 3, 1) := by decide +kernel
theorem dX12_strung_56 : decode cX12_strung 56 = .ok (.aload_n 0, 1) := by decide +kernel
theorem dX12_strung_57 : decode cX12_strung 57 = .ok (.getfield 122, 3) := by decide +kernel
theorem dX12_strung_60 : decode cX12_strung 60 = .ok (.iload_n 3, 1) := by decide +kernel
theorem dX12_strung_61 : decode cX12_strung 61 = .ok (.iconst 1, 1) := by decide +kernel
theorem dX12_strung_62 : decode cX12_strung 62 = .ok (.isub, 1) := by decide +kernel
theorem dX12_strung_63 : decode cX12_strung 63 = .ok (.iaload, 1) := by decide +kernel
theorem dX12_strung_64 : decode cX12_strung 64 = .ok (.aload_n 0, 1) := by decide +kernel
theorem dX12_strung_65 : decode cX12_strung 65 = .ok (.getfield 122, 3) := by decide +kernel
theorem dX12_strung_68 : decode cX12_strung 68 = .ok (.iload_n 3, 1) := by decide +kernel
theorem dX12_strung_69 : decode cX12_strung 69 = .ok (.iconst 2, 1) := by decide +kernel
theorem dX12_strung_70 : decode cX12_strung 70 = .ok (.isub, 1) := by decide +kernel
theorem dX12_strung_71 : decode cX12_strung 71 = .ok (.iaload, 1) := by decide +kernel
theorem dX12_strung_72 : decode cX12_strung 72 = .ok (.iadd, 1) := by decide +kernel
theorem dX12_strung_73 : decode cX12_strung 73 = .ok (.iastore, 1) := by decide +kernel
theorem dX12_strung_74 : decode cX12_strung 74 = .ok (.iinc 3 1, 3) := by decide +kernel
theorem dX12_strung_77 : decode cX12_strung 77 = .ok (.goto (-32), 3) := by decide +kernel
theorem dX12_strung_80 : decode cX12_strung 80 = .ok (.iconst 0, 1) := by decide +kernel
theorem dX12_strung_81 : decode cX12_strung 81 = .ok (.istore_n 3, 1) := by decide +kernel
theorem dX12_strung_82 : decode cX12_strung 82 = .ok (.iload_n 1, 1) := by decide +kernel
theorem dX12_strung_83 : decode cX12_strung 83 = .ok (.istore 4, 2) := by decide +kernel
theorem dX12_strung_85 : decode cX12_strung 85 = .ok (.bipush 19, 2) := by decide +kernel
theorem dX12_strung_87 : decode cX12_strung 87 = .ok (.istore 5, 2) := by decide +kernel
theorem dX12_strung_89 : decode cX12_strung 89 = .ok (.iload 5, 2) := by decide +kernel
theorem dX12_strung_91 : decode cX12_strung 91 = .ok (.ifCond .lt 43, 3) := by decide +kernel
theorem dX12_strung_94 : decode cX12_strung 94 = .ok (.aload_n 0, 1) := by decide +kernel
theorem dX12_strung_95 : decode cX12_strung 95 = .ok (.getfield 122, 3) := by decide +kernel
theorem dX12_strung_98 : decode cX12_strung 98 = .ok (.iload 5, 2) := by decide +kernel
theorem dX12_strung_100 : decode cX12_strung 100 = .ok (.iaload, 1) := by decide +kernel
theorem dX12_strung_101 : decode cX12_strung 101 = .ok (.iload 4, 2) := by decide +kernel
theorem dX12_strung_103 : decode cX12_strung 103 = .ok (.if_icmp .le 6, 3) := by decide +kernel
theorem dX12_strung_106 : decode cX12_strung 106 = .ok (.goto 22, 3) := by decide +kernel
theorem dX12_strung_109 : decode cX12_strung 109 = .ok (.iload 4, 2) := by decide +kernel
theorem dX12_strung_111 : decode cX12_strung 111 = .ok (.aload_n 0, 1) := by decide +kernel
theorem dX12_strung_112 : decode cX12_strung 112 = .ok (.getfield 122, 3) := by decide +kernel
theorem dX12_strung_115 : decode cX12_strung 115 = .ok (.iload 5, 2) := by decide +kernel
theorem dX12_strung_117 : decode cX12_strung 117 = .ok (.iaload, 1) := by decide +kernel
theorem dX12_strung_118 : decode cX12_strung 118 = .ok (.isub, 1) := by decide +kernel
theorem dX12_strung_119 : decode cX12_strung 119 = .ok (.istore 4, 2) := by decide +kernel
theorem dX12_strung_121 : decode cX12_strung 121 = .ok (.iload_n 3, 1) := by decide +kernel
theorem dX12_strung_122 : decode cX12_strung 122 = .ok (.iconst 1, 1) := by decide +kernel
theorem dX12_strung_123 : decode cX12_strung 123 = .ok (.iload 5, 2) := by decide +kernel
theorem dX12_strung_125 : decode cX12_strung 125 = .ok (.ishl, 1) := by decide +kernel
theorem dX12_strung_126 : decode cX12_strung 126 = .ok (.ior, 1) := by decide +kernel
theorem dX12_strung_127 : decode cX12_strung 127 = .ok (.istore_n 3, 1) := by decide +kernel
theorem dX12_strung_128 : decode cX12_strung 128 = .ok (.iinc 5 (-1), 3) := by decide +kernel
theorem dX12_strung_131 : decode cX12_strung 131 = .ok (.goto (-42), 3) := by decide +kernel
theorem dX12_strung_134 : decode cX12_strung 134 = .ok (.iload_n 2, 1) := by decide +kernel
theorem dX12_strung_135 : decode cX12_strung 135 = .ok (.ifCond .ne 7, 3) := by decide +kernel
theorem dX12_strung_138 : decode cX12_strung 138 = .ok (.iload_n 3, 1) := by decide +kernel
theorem dX12_strung_139 : decode cX12_strung 139 = .ok (.goto 8, 3) := by decide +kernel
theorem dX12_strung_142 : decode cX12_strung 142 = .ok (.aload_n 0, 1) := by decide +kernel
theorem dX12_strung_143 : decode cX12_strung 143 = .ok (.iload_n 3, 1) := by decide +kernel
theorem dX12_strung_144 : decode cX12_strung 144 = .ok (.invokevirtual 347, 3) := by decide +kernel
theorem dX12_strung_147 : decode cX12_strung 147 = .ok (.ireturn, 1) := by decide +kernel
theorem dX12_run_0 : decode cX12_run 0 = .ok (.aload_n 0, 1) := by decide +kernel
theorem dX12_run_1 : decode cX12_run 1 = .ok (.iconst 0, 1) := by decide +kernel
theorem dX12_run_2 : decode cX12_run 2 = .ok (.putfield 140, 3) := by decide +kernel
theorem dX12_run_5 : decode cX12_run 5 = .ok (.iload_n 1, 1) := by decide +kernel
theorem dX12_run_6 : decode cX12_run 6 = .ok (.iconst (-1), 1) := by decide +kernel
theorem dX12_run_7 : decode cX12_run 7 = .ok (.if_icmp .ne 10, 3) := by decide +kernel
theorem dX12_run_10 : decode cX12_run 10 = .ok (.aload_n 0, 1) := by decide +kernel
theorem dX12_run_11 : decode cX12_run 11 = .ok (.iconst 0, 1) := by decide +kernel
theorem dX12_run_12 : decode cX12_run 12 = .ok (.putfield 485, 3) := by decide +kernel
theorem dX12_run_15 : decode cX12_run 15 = .ok (.iconst 0, 1) := by decide +kernel
theorem dX12_run_16 : decode cX12_run 16 = .ok (.ireturn, 1) := by decide +kernel
theorem dX12_run_17 : decode cX12_run 17 = .ok (.aload_n 0, 1) := by decide +kernel
theorem dX12_run_18 : decode cX12_run 18 = .ok (.iload_n 1, 1) := by decide +kernel
theorem dX12_run_19 : decode cX12_run 19 = .ok (.iconst 0, 1) := by decide +kernel
theorem dX12_run_20 : decode cX12_run 20 = .ok (.bipush 9, 2) := by decide +kernel
theorem dX12_run_22 : decode cX12_run 22 = .ok (.invokevirtual 165, 3) := by decide +kernel
theorem dX12_run_25 : decode cX12_run 25 = .ok (.ifCond .eq 12, 3) := by decide +kernel
theorem dX12_run_28 : decode cX12_run 28 = .ok (.aload_n 0, 1) := by decide +kernel
theorem dX12_run_29 : decode cX12_run 29 = .ok (.getfield 485, 3) := by decide +kernel
theorem dX12_run_32 : decode cX12_run 32 = .ok (.bipush 12, 2) := by decide +kernel
theorem dX12_run_34 : decode cX12_run 34 = .ok (.if_icmp .ne 5, 3) := by decide +kernel
theorem dX12_run_37 : decode cX12_run 37 = .ok (.iconst (-1), 1) := by decide +kernel
theorem dX12_run_38 : decode cX12_run 38 = .ok (.ireturn, 1) := by decide +kernel
theorem dX12_run_39 : decode cX12_run 39 = .ok (.aload_n 0, 1) := by decide +kernel
theorem dX12_run_40 : decode cX12_run 40 = .ok (.getfield 125, 3) := by decide +kernel
theorem dX12_run_43 : decode cX12_run 43 = .ok (.aload_n 0, 1) := by decide +kernel
theorem dX12_run_44 : decode cX12_run 44 = .ok (.getfield 485, 3) := by decide +kernel
theorem dX12_run_47 : decode cX12_run 47 = .ok (.iload_n 1, 1) := by decide +kernel
theorem dX12_run_48 : decode cX12_run 48 = .ok (.iastore, 1) := by decide +kernel
theorem dX12_run_49 : decode cX12_run 49 = .ok (.aload_n 0, 1) := by decide +kernel
theorem dX12_run_50 : decode cX12_run 50 = .ok (.aload_n 0, 1) := by decide +kernel
theorem dX12_run_51 : decode cX12_run 51 = .ok (.getfield 485, 3) := by decide +kernel
theorem dX12_run_54 : decode cX12_run 54 = .ok (.iconst 1, 1) := by decide +kernel
theorem dX12_run_55 : decode cX12_run 55 = .ok (.iadd, 1) := by decide +kernel
theorem dX12_run_56 : decode cX12_run 56 = .ok (.putfield 485, 3) := by decide +kernel
theorem dX12_run_59 : decode cX12_run 59 = .ok (.aload_n 0, 1) := by decide +kernel
theorem dX12_run_60 : decode cX12_run 60 = .ok (.getfield 485, 3) := by decide +kernel
theorem dX12_run_63 : decode cX12_run 63 = .ok (.ireturn, 1) := by decide +kernel
theorem dX12_manyOf_0 : decode cX12_manyOf 0 = .ok (.iconst 0, 1) := by decide +kernel
theorem dX12_manyOf_1 : decode cX12_manyOf 1 = .ok (.istore_n 2, 1) := by decide +kernel
theorem dX12_manyOf_2 : decode cX12_manyOf 2 = .ok (.iconst 0, 1) := by decide +kernel
theorem dX12_manyOf_3 : decode cX12_manyOf 3 = .ok (.istore_n 3, 1) := by decide +kernel
theorem dX12_manyOf_4 : decode cX12_manyOf 4 = .ok (.iload_n 3, 1) := by decide +kernel
theorem dX12_manyOf_5 : decode cX12_manyOf 5 = .ok (.aload_n 0, 1) := by decide +kernel
theorem dX12_manyOf_6 : decode cX12_manyOf 6 = .ok (.getfield 485, 3) := by decide +kernel
theorem dX12_manyOf_9 : decode cX12_manyOf 9 = .ok (.if_icmp .ge 23, 3) := by decide +kernel
theorem dX12_manyOf_12 : decode cX12_manyOf 12 = .ok (.aload_n 0, 1) := by decide +kernel
theorem dX12_manyOf_13 : decode cX12_manyOf 13 = .ok (.getfield 125, 3) := by decide +kernel
theorem dX12_manyOf_16 : decode cX12_manyOf 16 = .ok (.iload_n 3, 1) := by decide +kernel
theorem dX12_manyOf_17 : decode cX12_manyOf 17 = .ok (.iaload, 1) := by decide +kernel
theorem dX12_manyOf_18 : decode cX12_manyOf 18 = .ok (.iload_n 1, 1) := by decide +kernel
theorem dX12_manyOf_19 : decode cX12_manyOf 19 = .ok (.if_icmp .ne 7, 3) := by decide +kernel
theorem dX12_manyOf_22 : decode cX12_manyOf 22 = .ok (.iload_n 2, 1) := by decide +kernel
theorem dX12_manyOf_23 : decode cX12_manyOf 23 = .ok (.iconst 1, 1) := by decide +kernel
theorem dX12_manyOf_24 : decode cX12_manyOf 24 = .ok (.iadd, 1) := by decide +kernel
theorem dX12_manyOf_25 : decode cX12_manyOf 25 = .ok (.istore_n 2, 1) := by decide +kernel
theorem dX12_manyOf_26 : decode cX12_manyOf 26 = .ok (.iinc 3 1, 3) := by decide +kernel
theorem dX12_manyOf_29 : decode cX12_manyOf 29 = .ok (.goto (-25), 3) := by decide +kernel
theorem dX12_manyOf_32 : decode cX12_manyOf 32 = .ok (.iload_n 2, 1) := by decide +kernel
theorem dX12_manyOf_33 : decode cX12_manyOf 33 = .ok (.ireturn, 1) := by decide +kernel
theorem dX12_runs_0 : decode cX12_runs 0 = .ok (.aload_n 0, 1) := by decide +kernel
theorem dX12_runs_1 : decode cX12_runs 1 = .ok (.iconst 0, 1) := by decide +kernel
theorem dX12_runs_2 : decode cX12_runs 2 = .ok (.putfield 140, 3) := by decide +kernel
theorem dX12_runs_5 : decode cX12_runs 5 = .ok (.iload_n 1, 1) := by decide +kernel
theorem dX12_runs_6 : decode cX12_runs 6 = .ok (.iconst 1, 1) := by decide +kernel
theorem dX12_runs_7 : decode cX12_runs 7 = .ok (.if_icmp .ne 47, 3) := by decide +kernel
theorem dX12_runs_10 : decode cX12_runs 10 = .ok (.iconst 0, 1) := by decide +kernel
theorem dX12_runs_11 : decode cX12_runs 11 = .ok (.istore_n 2, 1) := by decide +kernel
theorem dX12_runs_12 : decode cX12_runs 12 = .ok (.iconst 1, 1) := by decide +kernel
theorem dX12_runs_13 : decode cX12_runs 13 = .ok (.istore_n 3, 1) := by decide +kernel
theorem dX12_runs_14 : decode cX12_runs 14 = .ok (.iload_n 3, 1) := by decide +kernel
theorem dX12_runs_15 : decode cX12_runs 15 = .ok (.bipush 10, 2) := by decide +kernel
theorem dX12_runs_17 : decode cX12_runs 17 = .ok (.if_icmp .ge 24, 3) := by decide +kernel
theorem dX12_runs_20 : decode cX12_runs 20 = .ok (.aload_n 0, 1) := by decide +kernel
theorem dX12_runs_21 : decode cX12_runs 21 = .ok (.iload_n 3, 1) := by decide +kernel
theorem dX12_runs_22 : decode cX12_runs 22 = .ok (.invokevirtual 488, 3) := by decide +kernel
theorem dX12_runs_25 : decode cX12_runs 25 = .ok (.aload_n 0, 1) := by decide +kernel
theorem dX12_runs_26 : decode cX12_runs 26 = .ok (.iload_n 2, 1) := by decide +kernel
theorem dX12_runs_27 : decode cX12_runs 27 = .ok (.invokevirtual 488, 3) := by decide +kernel
theorem dX12_runs_30 : decode cX12_runs 30 = .ok (.if_icmp .le 5, 3) := by decide +kernel
theorem dX12_runs_33 : decode cX12_runs 33 = .ok (.iload_n 3, 1) := by decide +kernel
theorem dX12_runs_34 : decode cX12_runs 34 = .ok (.istore_n 2, 1) := by decide +kernel
theorem dX12_runs_35 : decode cX12_runs 35 = .ok (.iinc 3 1, 3) := by decide +kernel
theorem dX12_runs_38 : decode cX12_runs 38 = .ok (.goto (-24), 3) := by decide +kernel
theorem dX12_runs_41 : decode cX12_runs 41 = .ok (.aload_n 0, 1) := by decide +kernel
theorem dX12_runs_42 : decode cX12_runs 42 = .ok (.getfield 485, 3) := by decide +kernel
theorem dX12_runs_45 : decode cX12_runs 45 = .ok (.ifCond .ne 7, 3) := by decide +kernel
theorem dX12_runs_48 : decode cX12_runs 48 = .ok (.iconst (-1), 1) := by decide +kernel
theorem dX12_runs_49 : decode cX12_runs 49 = .ok (.goto 4, 3) := by decide +kernel
theorem dX12_runs_52 : decode cX12_runs 52 = .ok (.iload_n 2, 1) := by decide +kernel
theorem dX12_runs_53 : decode cX12_runs 53 = .ok (.ireturn, 1) := by decide +kernel
theorem dX12_runs_54 : decode cX12_runs 54 = .ok (.iload_n 1, 1) := by decide +kernel
theorem dX12_runs_55 : decode cX12_runs 55 = .ok (.ifCond .eq 18, 3) := by decide +kernel
theorem dX12_runs_58 : decode cX12_runs 58 = .ok (.aload_n 0, 1) := by decide +kernel
theorem dX12_runs_59 : decode cX12_runs 59 = .ok (.iload_n 1, 1) := by decide +kernel
theorem dX12_runs_60 : decode cX12_runs 60 = .ok (.bipush 100, 2) := by decide +kernel
theorem dX12_runs_62 : decode cX12_runs 62 = .ok (.sipush 208, 3) := by decide +kernel
theorem dX12_runs_65 : decode cX12_runs 65 = .ok (.invokevirtual 165, 3) := by decide +kernel
theorem dX12_runs_68 : decode cX12_runs 68 = .ok (.ifCond .ne 5, 3) := by decide +kernel
theorem dX12_runs_71 : decode cX12_runs 71 = .ok (.iconst (-1), 1) := by decide +kernel
theorem dX12_runs_72 : decode cX12_runs 72 = .ok (.ireturn, 1) := by decide +kernel
theorem dX12_runs_73 : decode cX12_runs 73 = .ok (.iconst 0, 1) := by decide +kernel
theorem dX12_runs_74 : decode cX12_runs 74 = .ok (.istore_n 2, 1) := by decide +kernel
theorem dX12_runs_75 : decode cX12_runs 75 = .ok (.iconst 0, 1) := by decide +kernel
theorem dX12_runs_76 : decode cX12_runs 76 = .ok (.istore_n 3, 1) := by decide +kernel
theorem dX12_runs_77 : decode cX12_runs 77 = .ok (.iconst 0, 1) := by decide +kernel
theorem dX12_runs_78 : decode cX12_runs 78 = .ok (.istore 4, 2) := by decide +kernel
theorem dX12_runs_80 : decode cX12_runs 80 = .ok (.iload 4, 2) := by decide +kernel
theorem dX12_runs_82 : decode cX12_runs 82 = .ok (.aload_n 0, 1) := by decide +kernel
theorem dX12_runs_83 : decode cX12_runs 83 = .ok (.getfield 485, 3) := by decide +kernel
theorem dX12_runs_86 : decode cX12_runs 86 = .ok (.if_icmp .ge 122, 3) := by decide +kernel
theorem dX12_runs_89 : decode cX12_runs 89 = .ok (.iconst 0, 1) := by decide +kernel
theorem dX12_runs_90 : decode cX12_runs 90 = .ok (.istore 5, 2) := by decide +kernel
theorem dX12_runs_92 : decode cX12_runs 92 = .ok (.iconst 0, 1) := by decide +kernel
theorem dX12_runs_93 : decode cX12_runs 93 = .ok (.istore 6, 2) := by decide +kernel
theorem dX12_runs_95 : decode cX12_runs 95 = .ok (.iconst 1, 1) := by decide +kernel
theorem dX12_runs_96 : decode cX12_runs 96 = .ok (.istore 7, 2) := by decide +kernel
theorem dX12_runs_98 : decode cX12_runs 98 = .ok (.iload 4, 2) := by decide +kernel
theorem dX12_runs_100 : decode cX12_runs 100 = .ok (.istore 8, 2) := by decide +kernel
theorem dX12_runs_102 : decode cX12_runs 102 = .ok (.iload 8, 2) := by decide +kernel
theorem dX12_runs_104 : decode cX12_runs 104 = .ok (.aload_n 0, 1) := by decide +kernel
theorem dX12_runs_105 : decode cX12_runs 105 = .ok (.getfield 485, 3) := by decide +kernel
theorem dX12_runs_108 : decode cX12_runs 108 = .ok (.if_icmp .ge 94, 3) := by decide +kernel
theorem dX12_runs_111 : decode cX12_runs 111 = .ok (.iload 5, 2) := by decide +kernel
theorem dX12_runs_113 : decode cX12_runs 113 = .ok (.aload_n 0, 1) := by decide +kernel
theorem dX12_runs_114 : decode cX12_runs 114 = .ok (.getfield 125, 3) := by decide +kernel
theorem dX12_runs_117 : decode cX12_runs 117 = .ok (.iload 8, 2) := by decide +kernel
theorem dX12_runs_119 : decode cX12_runs 119 = .ok (.iaload, 1) := by decide +kernel
theorem dX12_runs_120 : decode cX12_runs 120 = .ok (.iadd, 1) := by decide +kernel
theorem dX12_runs_121 : decode cX12_runs 121 = .ok (.istore 5, 2) := by decide +kernel
theorem dX12_runs_123 : decode cX12_runs 123 = .ok (.iload 7, 2) := by decide +kernel
theorem dX12_runs_125 : decode cX12_runs 125 = .ok (.ifCond .eq 23, 3) := by decide +kernel
theorem dX12_runs_128 : decode cX12_runs 128 = .ok (.aload_n 0, 1) := by decide +kernel
theorem dX12_runs_129 : decode cX12_runs 129 = .ok (.iload 6, 2) := by decide +kernel
theorem dX12_runs_131 : decode cX12_runs 131 = .ok (.aload_n 0, 1) := by decide +kernel
theorem dX12_runs_132 : decode cX12_runs 132 = .ok (.getfield 125, 3) := by decide +kernel
theorem dX12_runs_135 : decode cX12_runs 135 = .ok (.iload 8, 2) := by decide +kernel
theorem dX12_runs_137 : decode cX12_runs 137 = .ok (.iaload, 1) := by decide +kernel
theorem dX12_runs_138 : decode cX12_runs 138 = .ok (.invokevirtual 372, 3) := by decide +kernel
theorem dX12_runs_141 : decode cX12_runs 141 = .ok (.ifCond .ne 7, 3) := by decide +kernel
theorem dX12_runs_144 : decode cX12_runs 144 = .ok (.iconst 1, 1) := by decide +kernel
theorem dX12_runs_145 : decode cX12_runs 145 = .ok (.goto 4, 3) := by decide +kernel
theorem dX12_runs_148 : decode cX12_runs 148 = .ok (.iconst 0, 1) := by decide +kernel
theorem dX12_runs_149 : decode cX12_runs 149 = .ok (.istore 7, 2) := by decide +kernel
theorem dX12_runs_151 : decode cX12_runs 151 = .ok (.iload 6, 2) := by decide +kernel
theorem dX12_runs_153 : decode cX12_runs 153 = .ok (.iconst 1, 1) := by decide +kernel
theorem dX12_runs_154 : decode cX12_runs 154 = .ok (.aload_n 0, 1) := by decide +kernel
theorem dX12_runs_155 : decode cX12_runs 155 = .ok (.getfield 125, 3) := by decide +kernel
theorem dX12_runs_158 : decode cX12_runs 158 = .ok (.iload 8, 2) := by decide +kernel
theorem dX12_runs_160 : decode cX12_runs 160 = .ok (.iaload, 1) := by decide +kernel
theorem dX12_runs_161 : decode cX12_runs 161 = .ok (.ishl, 1) := by decide +kernel
theorem dX12_runs_162 : decode cX12_runs 162 = .ok (.ior, 1) := by decide +kernel
theorem dX12_runs_163 : decode cX12_runs 163 = .ok (.istore 6, 2) := by decide +kernel
theorem dX12_runs_165 : decode cX12_runs 165 = .ok (.iload 7, 2) := by decide +kernel
theorem dX12_runs_167 : decode cX12_runs 167 = .ok (.ifCond .eq 16, 3) := by decide +kernel
theorem dX12_runs_170 : decode cX12_runs 170 = .ok (.aload_n 0, 1) := by decide +kernel
theorem dX12_runs_171 : decode cX12_runs 171 = .ok (.iload_n 2, 1) := by decide +kernel
theorem dX12_runs_172 : decode cX12_runs 172 = .ok (.iload 8, 2) := by decide +kernel
theorem dX12_runs_174 : decode cX12_runs 174 = .ok (.iload 4, 2) := by decide +kernel
theorem dX12_runs_176 : decode cX12_runs 176 = .ok (.isub, 1) := by decide +kernel
theorem dX12_runs_177 : decode cX12_runs 177 = .ok (.iconst 1, 1) := by decide +kernel
theorem dX12_runs_178 : decode cX12_runs 178 = .ok (.iadd, 1) := by decide +kernel
theorem dX12_runs_179 : decode cX12_runs 179 = .ok (.invokevirtual 442, 3) := by decide +kernel
theorem dX12_runs_182 : decode cX12_runs 182 = .ok (.istore_n 2, 1) := by decide +kernel
theorem dX12_runs_183 : decode cX12_runs 183 = .ok (.iload 5, 2) := by decide +kernel
theorem dX12_runs_185 : decode cX12_runs 185 = .ok (.iload_n 1, 1) := by decide +kernel
theorem dX12_runs_186 : decode cX12_runs 186 = .ok (.bipush 100, 2) := by decide +kernel
theorem dX12_runs_188 : decode cX12_runs 188 = .ok (.isub, 1) := by decide +kernel
theorem dX12_runs_189 : decode cX12_runs 189 = .ok (.if_icmp .ne 7, 3) := by decide +kernel
theorem dX12_runs_192 : decode cX12_runs 192 = .ok (.iload_n 3, 1) := by decide +kernel
theorem dX12_runs_193 : decode cX12_runs 193 = .ok (.iconst 1, 1) := by decide +kernel
theorem dX12_runs_194 : decode cX12_runs 194 = .ok (.iadd, 1) := by decide +kernel
theorem dX12_runs_195 : decode cX12_runs 195 = .ok (.istore_n 3, 1) := by decide +kernel
theorem dX12_runs_196 : decode cX12_runs 196 = .ok (.iinc 8 1, 3) := by decide +kernel
theorem dX12_runs_199 : decode cX12_runs 199 = .ok (.goto (-97), 3) := by decide +kernel
theorem dX12_runs_202 : decode cX12_runs 202 = .ok (.iinc 4 1, 3) := by decide +kernel
theorem dX12_runs_205 : decode cX12_runs 205 = .ok (.goto (-125), 3) := by decide +kernel
theorem dX12_runs_208 : decode cX12_runs 208 = .ok (.iload_n 1, 1) := by decide +kernel
theorem dX12_runs_209 : decode cX12_runs 209 = .ok (.ifCond .ne 7, 3) := by decide +kernel
theorem dX12_runs_212 : decode cX12_runs 212 = .ok (.iload_n 2, 1) := by decide +kernel
theorem dX12_runs_213 : decode cX12_runs 213 = .ok (.goto 4, 3) := by decide +kernel
theorem dX12_runs_216 : decode cX12_runs 216 = .ok (.iload_n 3, 1) := by decide +kernel
theorem dX12_runs_217 : decode cX12_runs 217 = .ok (.ireturn, 1) := by decide +kernel
theorem dX12_hole_0 : decode cX12_hole 0 = .ok (.aload_n 0, 1) := by decide +kernel
theorem dX12_hole_1 : decode cX12_hole 1 = .ok (.iconst 0, 1) := by decide +kernel
theorem dX12_hole_2 : decode cX12_hole 2 = .ok (.putfield 140, 3) := by decide +kernel
theorem dX12_hole_5 : decode cX12_hole 5 = .ok (.aload_n 0, 1) := by decide +kernel
theorem dX12_hole_6 : decode cX12_hole 6 = .ok (.iload_n 1, 1) := by decide +kernel
theorem dX12_hole_7 : decode cX12_hole 7 = .ok (.iconst 0, 1) := by decide +kernel
theorem dX12_hole_8 : decode cX12_hole 8 = .ok (.iconst 5, 1) := by decide +kernel
theorem dX12_hole_9 : decode cX12_hole 9 = .ok (.invokevirtual 165, 3) := by decide +kernel
theorem dX12_hole_12 : decode cX12_hole 12 = .ok (.ifCond .eq 13, 3) := by decide +kernel
theorem dX12_hole_15 : decode cX12_hole 15 = .ok (.aload_n 0, 1) := by decide +kernel
theorem dX12_hole_16 : decode cX12_hole 16 = .ok (.iload_n 2, 1) := by decide +kernel
theorem dX12_hole_17 : decode cX12_hole 17 = .ok (.iconst 0, 1) := by decide +kernel
theorem dX12_hole_18 : decode cX12_hole 18 = .ok (.iconst 5, 1) := by decide +kernel
theorem dX12_hole_19 : decode cX12_hole 19 = .ok (.invokevirtual 165, 3) := by decide +kernel
theorem dX12_hole_22 : decode cX12_hole 22 = .ok (.ifCond .ne 5, 3) := by decide +kernel
theorem dX12_hole_25 : decode cX12_hole 25 = .ok (.iconst 0, 1) := by decide +kernel
theorem dX12_hole_26 : decode cX12_hole 26 = .ok (.ireturn, 1) := by decide +kernel
theorem dX12_hole_27 : decode cX12_hole 27 = .ok (.aload_n 0, 1) := by decide +kernel
theorem dX12_hole_28 : decode cX12_hole 28 = .ok (.getfield 128, 3) := by decide +kernel
theorem dX12_hole_31 : decode cX12_hole 31 = .ok (.bipush 6, 2) := by decide +kernel
theorem dX12_hole_33 : decode cX12_hole 33 = .ok (.iload_n 2, 1) := by decide +kernel
theorem dX12_hole_34 : decode cX12_hole 34 = .ok (.imul, 1) := by decide +kernel
theorem dX12_hole_35 : decode cX12_hole 35 = .ok (.iload_n 1, 1) := by decide +kernel
theorem dX12_hole_36 : decode cX12_hole 36 = .ok (.iadd, 1) := by decide +kernel
theorem dX12_hole_37 : decode cX12_hole 37 = .ok (.iload_n 3, 1) := by decide +kernel
theorem dX12_hole_38 : decode cX12_hole 38 = .ok (.ifCond .eq 7, 3) := by decide +kernel
theorem dX12_hole_41 : decode cX12_hole 41 = .ok (.iconst 1, 1) := by decide +kernel
theorem dX12_hole_42 : decode cX12_hole 42 = .ok (.goto 4, 3) := by decide +kernel
theorem dX12_hole_45 : decode cX12_hole 45 = .ok (.iconst 0, 1) := by decide +kernel
theorem dX12_hole_46 : decode cX12_hole 46 = .ok (.iastore, 1) := by decide +kernel
theorem dX12_hole_47 : decode cX12_hole 47 = .ok (.iconst 1, 1) := by decide +kernel
theorem dX12_hole_48 : decode cX12_hole 48 = .ok (.ireturn, 1) := by decide +kernel
theorem dX12_leaks_0 : decode cX12_leaks 0 = .ok (.aload_n 0, 1) := by decide +kernel
theorem dX12_leaks_1 : decode cX12_leaks 1 = .ok (.iconst 0, 1) := by decide +kernel
theorem dX12_leaks_2 : decode cX12_leaks 2 = .ok (.putfield 140, 3) := by decide +kernel
theorem dX12_leaks_5 : decode cX12_leaks 5 = .ok (.aload_n 0, 1) := by decide +kernel
theorem dX12_leaks_6 : decode cX12_leaks 6 = .ok (.iload_n 1, 1) := by decide +kernel
theorem dX12_leaks_7 : decode cX12_leaks 7 = .ok (.iconst 0, 1) := by decide +kernel
theorem dX12_leaks_8 : decode cX12_leaks 8 = .ok (.iconst 1, 1) := by decide +kernel
theorem dX12_leaks_9 : decode cX12_leaks 9 = .ok (.invokevirtual 165, 3) := by decide +kernel
theorem dX12_leaks_12 : decode cX12_leaks 12 = .ok (.ifCond .ne 5, 3) := by decide +kernel
theorem dX12_leaks_15 : decode cX12_leaks 15 = .ok (.iconst (-1), 1) := by decide +kernel
theorem dX12_leaks_16 : decode cX12_leaks 16 = .ok (.ireturn, 1) := by decide +kernel
theorem dX12_leaks_17 : decode cX12_leaks 17 = .ok (.iconst 0, 1) := by decide +kernel
theorem dX12_leaks_18 : decode cX12_leaks 18 = .ok (.istore_n 2, 1) := by decide +kernel
theorem dX12_leaks_19 : decode cX12_leaks 19 = .ok (.iload_n 2, 1) := by decide +kernel
theorem dX12_leaks_20 : decode cX12_leaks 20 = .ok (.bipush 36, 2) := by decide +kernel
theorem dX12_leaks_22 : decode cX12_leaks 22 = .ok (.if_icmp .ge 35, 3) := by decide +kernel
theorem dX12_leaks_25 : decode cX12_leaks 25 = .ok (.aload_n 0, 1) := by decide +kernel
theorem dX12_leaks_26 : decode cX12_leaks 26 = .ok (.getfield 131, 3) := by decide +kernel
theorem dX12_leaks_29 : decode cX12_leaks 29 = .ok (.iload_n 2, 1) := by decide +kernel
theorem dX12_leaks_30 : decode cX12_leaks 30 = .ok (.iload_n 2, 1) := by decide +kernel
theorem dX12_leaks_31 : decode cX12_leaks 31 = .ok (.bipush 6, 2) := by decide +kernel
theorem dX12_leaks_33 : decode cX12_leaks 33 = .ok (.if_icmp .ge 14, 3) := by decide +kernel
theorem dX12_leaks_36 : decode cX12_leaks 36 = .ok (.iconst 1, 1) := by decide +kernel
theorem dX12_leaks_37 : decode cX12_leaks 37 = .ok (.aload_n 0, 1) := by decide +kernel
theorem dX12_leaks_38 : decode cX12_leaks 38 = .ok (.getfield 128, 3) := by decide +kernel
theorem dX12_leaks_41 : decode cX12_leaks 41 = .ok (.iload_n 2, 1) := by decide +kernel
theorem dX12_leaks_42 : decode cX12_leaks 42 = .ok (.iaload, 1) := by decide +kernel
theorem dX12_leaks_43 : decode cX12_leaks 43 = .ok (.isub, 1) := by decide +kernel
theorem dX12_leaks_44 : decode cX12_leaks 44 = .ok (.goto 6, 3) := by decide +kernel
theorem dX12_leaks_47 : decode cX12_leaks 47 = .ok (.ldc_w 454, 3) := by decide +kernel
theorem dX12_leaks_50 : decode cX12_leaks 50 = .ok (.iastore, 1) := by decide +kernel
theorem dX12_leaks_51 : decode cX12_leaks 51 = .ok (.iinc 2 1, 3) := by decide +kernel
theorem dX12_leaks_54 : decode cX12_leaks 54 = .ok (.goto (-35), 3) := by decide +kernel
theorem dX12_leaks_57 : decode cX12_leaks 57 = .ok (.iconst 0, 1) := by decide +kernel
theorem dX12_leaks_58 : decode cX12_leaks 58 = .ok (.istore_n 2, 1) := by decide +kernel
theorem dX12_leaks_59 : decode cX12_leaks 59 = .ok (.iload_n 2, 1) := by decide +kernel
theorem dX12_leaks_60 : decode cX12_leaks 60 = .ok (.bipush 36, 2) := by decide +kernel
theorem dX12_leaks_62 : decode cX12_leaks 62 = .ok (.if_icmp .ge 148, 3) := by decide +kernel
theorem dX12_leaks_65 : decode cX12_leaks 65 = .ok (.iconst 0, 1) := by decide +kernel
theorem dX12_leaks_66 : decode cX12_leaks 66 = .ok (.istore_n 3, 1) := by decide +kernel
theorem dX12_leaks_67 : decode cX12_leaks 67 = .ok (.iload_n 3, 1) := by decide +kernel
theorem dX12_leaks_68 : decode cX12_leaks 68 = .ok (.bipush 36, 2) := by decide +kernel
theorem dX12_leaks_70 : decode cX12_leaks 70 = .ok (.if_icmp .ge 134, 3) := by decide +kernel
theorem dX12_leaks_73 : decode cX12_leaks 73 = .ok (.aload_n 0, 1) := by decide +kernel
theorem dX12_leaks_74 : decode cX12_leaks 74 = .ok (.aload_n 0, 1) := by decide +kernel
theorem dX12_leaks_75 : decode cX12_leaks 75 = .ok (.iload_n 3, 1) := by decide +kernel
theorem dX12_leaks_76 : decode cX12_leaks 76 = .ok (.bipush 6, 2) := by decide +kernel
theorem dX12_leaks_78 : decode cX12_leaks 78 = .ok (.irem, 1) := by decide +kernel
theorem dX12_leaks_79 : decode cX12_leaks 79 = .ok (.ifCond .le 14, 3) := by decide +kernel
theorem dX12_leaks_82 : decode cX12_leaks 82 = .ok (.aload_n 0, 1) := by decide +kernel
theorem dX12_leaks_83 : decode cX12_leaks 83 = .ok (.getfield 131, 3) := by decide +kernel
theorem dX12_leaks_86 : decode cX12_leaks 86 = .ok (.iload_n 3, 1) := by decide +kernel
theorem dX12_leaks_87 : decode cX12_leaks 87 = .ok (.iconst 1, 1) := by decide +kernel
theorem dX12_leaks_88 : decode cX12_leaks 88 = .ok (.isub, 1) := by decide +kernel
theorem dX12_leaks_89 : decode cX12_leaks 89 = .ok (.iaload, 1) := by decide +kernel
theorem dX12_leaks_90 : decode cX12_leaks 90 = .ok (.goto 6, 3) := by decide +kernel
theorem dX12_leaks_93 : decode cX12_leaks 93 = .ok (.ldc_w 454, 3) := by decide +kernel
theorem dX12_leaks_96 : decode cX12_leaks 96 = .ok (.iload_n 3, 1) := by decide +kernel
theorem dX12_leaks_97 : decode cX12_leaks 97 = .ok (.bipush 6, 2) := by decide +kernel
theorem dX12_leaks_99 : decode cX12_leaks 99 = .ok (.irem, 1) := by decide +kernel
theorem dX12_leaks_100 : decode cX12_leaks 100 = .ok (.iconst 5, 1) := by decide +kernel
theorem dX12_leaks_101 : decode cX12_leaks 101 = .ok (.if_icmp .ge 14, 3) := by decide +kernel
theorem dX12_leaks_104 : decode cX12_leaks 104 = .ok (.aload_n 0, 1) := by decide +kernel
theorem dX12_leaks_105 : decode cX12_leaks 105 = .ok (.getfield 131, 3) := by decide +kernel
theorem dX12_leaks_108 : decode cX12_leaks 108 = .ok (.iload_n 3, 1) := by decide +kernel
theorem dX12_leaks_109 : decode cX12_leaks 109 = .ok (.iconst 1, 1) := by decide +kernel
theorem dX12_leaks_110 : decode cX12_leaks 110 = .ok (.iadd, 1) := by decide +kernel
theorem dX12_leaks_111 : decode cX12_leaks 111 = .ok (.iaload, 1) := by decide +kernel
theorem dX12_leaks_112 : decode cX12_leaks 112 = .ok (.goto 6, 3) := by decide +kernel
theorem dX12_leaks_115 : decode cX12_leaks 115 = .ok (.ldc_w 454, 3) := by decide +kernel
theorem dX12_leaks_118 : decode cX12_leaks 118 = .ok (.invokevirtual 376, 3) := by decide +kernel
theorem dX12_leaks_121 : decode cX12_leaks 121 = .ok (.aload_n 0, 1) := by decide +kernel
theorem dX12_leaks_122 : decode cX12_leaks 122 = .ok (.iload_n 3, 1) := by decide +kernel
theorem dX12_leaks_123 : decode cX12_leaks 123 = .ok (.iconst 5, 1) := by decide +kernel
theorem dX12_leaks_124 : decode cX12_leaks 124 = .ok (.if_icmp .le 15, 3) := by decide +kernel
theorem dX12_leaks_127 : decode cX12_leaks 127 = .ok (.aload_n 0, 1) := by decide +kernel
theorem dX12_leaks_128 : decode cX12_leaks 128 = .ok (.getfield 131, 3) := by decide +kernel
theorem dX12_leaks_131 : decode cX12_leaks 131 = .ok (.iload_n 3, 1) := by decide +kernel
theorem dX12_leaks_132 : decode cX12_leaks 132 = .ok (.bipush 6, 2) := by decide +kernel
theorem dX12_leaks_134 : decode cX12_leaks 134 = .ok (.isub, 1) := by decide +kernel
theorem dX12_leaks_135 : decode cX12_leaks 135 = .ok (.iaload, 1) := by decide +kernel
theorem dX12_leaks_136 : decode cX12_leaks 136 = .ok (.goto 6, 3) := by decide +kernel
theorem dX12_leaks_139 : decode cX12_leaks 139 = .ok (.ldc_w 454, 3) := by decide +kernel
theorem dX12_leaks_142 : decode cX12_leaks 142 = .ok (.iload_n 3, 1) := by decide +kernel
theorem dX12_leaks_143 : decode cX12_leaks 143 = .ok (.bipush 30, 2) := by decide +kernel
theorem dX12_leaks_145 : decode cX12_leaks 145 = .ok (.if_icmp .ge 15, 3) := by decide +kernel
theorem dX12_leaks_148 : decode cX12_leaks 148 = .ok (.aload_n 0, 1) := by decide +kernel
theorem dX12_leaks_149 : decode cX12_leaks 149 = .ok (.getfield 131, 3) := by decide +kernel
theorem dX12_leaks_152 : decode cX12_leaks 152 = .ok (.iload_n 3, 1) := by decide +kernel
theorem dX12_leaks_153 : decode cX12_leaks 153 = .ok (.bipush 6, 2) := by decide +kernel
theorem dX12_leaks_155 : decode cX12_leaks 155 = .ok (.iadd, 1) := by decide +kernel
theorem dX12_leaks_156 : decode cX12_leaks 156 = .ok (.iaload, 1) := by decide +kernel
theorem dX12_leaks_157 : decode cX12_leaks 157 = .ok (.goto 6, 3) := by decide +kernel
theorem dX12_leaks_160 : decode cX12_leaks 160 = .ok (.ldc_w 454, 3) := by decide +kernel
theorem dX12_leaks_163 : decode cX12_leaks 163 = .ok (.invokevirtual 376, 3) := by decide +kernel
theorem dX12_leaks_166 : decode cX12_leaks 166 = .ok (.invokevirtual 376, 3) := by decide +kernel
theorem dX12_leaks_169 : decode cX12_leaks 169 = .ok (.istore 4, 2) := by decide +kernel
theorem dX12_leaks_171 : decode cX12_leaks 171 = .ok (.aload_n 0, 1) := by decide +kernel
theorem dX12_leaks_172 : decode cX12_leaks 172 = .ok (.getfield 131, 3) := by decide +kernel
theorem dX12_leaks_175 : decode cX12_leaks 175 = .ok (.iload_n 3, 1) := by decide +kernel
theorem dX12_leaks_176 : decode cX12_leaks 176 = .ok (.aload_n 0, 1) := by decide +kernel
theorem dX12_leaks_177 : decode cX12_leaks 177 = .ok (.aload_n 0, 1) := by decide +kernel
theorem dX12_leaks_178 : decode cX12_leaks 178 = .ok (.getfield 131, 3) := by decide +kernel
theorem dX12_leaks_181 : decode cX12_leaks 181 = .ok (.iload_n 3, 1) := by decide +kernel
theorem dX12_leaks_182 : decode cX12_leaks 182 = .ok (.iaload, 1) := by decide +kernel
theorem dX12_leaks_183 : decode cX12_leaks 183 = .ok (.iload 4, 2) := by decide +kernel
theorem dX12_leaks_185 : decode cX12_leaks 185 = .ok (.iconst 1, 1) := by decide +kernel
theorem dX12_leaks_186 : decode cX12_leaks 186 = .ok (.iadd, 1) := by decide +kernel
theorem dX12_leaks_187 : decode cX12_leaks 187 = .ok (.aload_n 0, 1) := by decide +kernel
theorem dX12_leaks_188 : decode cX12_leaks 188 = .ok (.getfield 128, 3) := by decide +kernel
theorem dX12_leaks_191 : decode cX12_leaks 191 = .ok (.iload_n 3, 1) := by decide +kernel
theorem dX12_leaks_192 : decode cX12_leaks 192 = .ok (.iaload, 1) := by decide +kernel
theorem dX12_leaks_193 : decode cX12_leaks 193 = .ok (.isub, 1) := by decide +kernel
theorem dX12_leaks_194 : decode cX12_leaks 194 = .ok (.invokevirtual 376, 3) := by decide +kernel
theorem dX12_leaks_197 : decode cX12_leaks 197 = .ok (.iastore, 1) := by decide +kernel
theorem dX12_leaks_198 : decode cX12_leaks 198 = .ok (.iinc 3 1, 3) := by decide +kernel
theorem dX12_leaks_201 : decode cX12_leaks 201 = .ok (.goto (-134), 3) := by decide +kernel
theorem dX12_leaks_204 : decode cX12_leaks 204 = .ok (.iinc 2 1, 3) := by decide +kernel
theorem dX12_leaks_207 : decode cX12_leaks 207 = .ok (.goto (-148), 3) := by decide +kernel
theorem dX12_leaks_210 : decode cX12_leaks 210 = .ok (.ldc_w 454, 3) := by decide +kernel
theorem dX12_leaks_213 : decode cX12_leaks 213 = .ok (.istore_n 2, 1) := by decide +kernel
theorem dX12_leaks_214 : decode cX12_leaks 214 = .ok (.bipush 30, 2) := by decide +kernel
theorem dX12_leaks_216 : decode cX12_leaks 216 = .ok (.istore_n 3, 1) := by decide +kernel
theorem dX12_leaks_217 : decode cX12_leaks 217 = .ok (.iload_n 3, 1) := by decide +kernel
theorem dX12_leaks_218 : decode cX12_leaks 218 = .ok (.bipush 36, 2) := by decide +kernel
theorem dX12_leaks_220 : decode cX12_leaks 220 = .ok (.if_icmp .ge 21, 3) := by decide +kernel
theorem dX12_leaks_223 : decode cX12_leaks 223 = .ok (.aload_n 0, 1) := by decide +kernel
theorem dX12_leaks_224 : decode cX12_leaks 224 = .ok (.iload_n 2, 1) := by decide +kernel
theorem dX12_leaks_225 : decode cX12_leaks 225 = .ok (.aload_n 0, 1) := by decide +kernel
theorem dX12_leaks_226 : decode cX12_leaks 226 = .ok (.getfield 131, 3) := by decide +kernel
theorem dX12_leaks_229 : decode cX12_leaks 229 = .ok (.iload_n 3, 1) := by decide +kernel
theorem dX12_leaks_230 : decode cX12_leaks 230 = .ok (.iaload, 1) := by decide +kernel
theorem dX12_leaks_231 : decode cX12_leaks 231 = .ok (.invokevirtual 376, 3) := by decide +kernel
theorem dX12_leaks_234 : decode cX12_leaks 234 = .ok (.istore_n 2, 1) := by decide +kernel
theorem dX12_leaks_235 : decode cX12_leaks 235 = .ok (.iinc 3 1, 3) := by decide +kernel
theorem dX12_leaks_238 : decode cX12_leaks 238 = .ok (.goto (-21), 3) := by decide +kernel
theorem dX12_leaks_241 : decode cX12_leaks 241 = .ok (.iload_n 1, 1) := by decide +kernel
theorem dX12_leaks_242 : decode cX12_leaks 242 = .ok (.iconst 1, 1) := by decide +kernel
theorem dX12_leaks_243 : decode cX12_leaks 243 = .ok (.if_icmp .ne 7, 3) := by decide +kernel
theorem dX12_leaks_246 : decode cX12_leaks 246 = .ok (.iload_n 2, 1) := by decide +kernel
theorem dX12_leaks_247 : decode cX12_leaks 247 = .ok (.goto 12, 3) := by decide +kernel
theorem dX12_leaks_250 : decode cX12_leaks 250 = .ok (.iload_n 2, 1) := by decide +kernel
theorem dX12_leaks_251 : decode cX12_leaks 251 = .ok (.ifCond .ne 7, 3) := by decide +kernel
theorem dX12_leaks_254 : decode cX12_leaks 254 = .ok (.iconst 1, 1) := by decide +kernel
theorem dX12_leaks_255 : decode cX12_leaks 255 = .ok (.goto 4, 3) := by decide +kernel
theorem dX12_leaks_258 : decode cX12_leaks 258 = .ok (.iconst 0, 1) := by decide +kernel
theorem dX12_leaks_259 : decode cX12_leaks 259 = .ok (.ireturn, 1) := by decide +kernel
theorem dX12_addedTo_0 : decode cX12_addedTo 0 = .ok (.iload_n 1, 1) := by decide +kernel
theorem dX12_addedTo_1 : decode cX12_addedTo 1 = .ok (.ldc_w 491, 3) := by decide +kernel
theorem dX12_addedTo_4 : decode cX12_addedTo 4 = .ok (.iload_n 2, 1) := by decide +kernel
theorem dX12_addedTo_5 : decode cX12_addedTo 5 = .ok (.isub, 1) := by decide +kernel
theorem dX12_addedTo_6 : decode cX12_addedTo 6 = .ok (.if_icmp .lt 13, 3) := by decide +kernel
theorem dX12_addedTo_9 : decode cX12_addedTo 9 = .ok (.iload_n 1, 1) := by decide +kernel
theorem dX12_addedTo_10 : decode cX12_addedTo 10 = .ok (.ldc_w 491, 3) := by decide +kernel
theorem dX12_addedTo_13 : decode cX12_addedTo 13 = .ok (.iload_n 2, 1) := by decide +kernel
theorem dX12_addedTo_14 : decode cX12_addedTo 14 = .ok (.isub, 1) := by decide +kernel
theorem dX12_addedTo_15 : decode cX12_addedTo 15 = .ok (.isub, 1) := by decide +kernel
theorem dX12_addedTo_16 : decode cX12_addedTo 16 = .ok (.goto 6, 3) := by decide +kernel
theorem dX12_addedTo_19 : decode cX12_addedTo 19 = .ok (.iload_n 1, 1) := by decide +kernel
theorem dX12_addedTo_20 : decode cX12_addedTo 20 = .ok (.iload_n 2, 1) := by decide +kernel
theorem dX12_addedTo_21 : decode cX12_addedTo 21 = .ok (.iadd, 1) := by decide +kernel
theorem dX12_addedTo_22 : decode cX12_addedTo 22 = .ok (.ireturn, 1) := by decide +kernel
theorem dX12_times_0 : decode cX12_times 0 = .ok (.iconst 0, 1) := by decide +kernel
theorem dX12_times_1 : decode cX12_times 1 = .ok (.istore_n 3, 1) := by decide +kernel
theorem dX12_times_2 : decode cX12_times 2 = .ok (.iconst 0, 1) := by decide +kernel
theorem dX12_times_3 : decode cX12_times 3 = .ok (.istore 4, 2) := by decide +kernel
theorem dX12_times_5 : decode cX12_times 5 = .ok (.iload 4, 2) := by decide +kernel
theorem dX12_times_7 : decode cX12_times 7 = .ok (.iload_n 2, 1) := by decide +kernel
theorem dX12_times_8 : decode cX12_times 8 = .ok (.if_icmp .ge 16, 3) := by decide +kernel
theorem dX12_times_11 : decode cX12_times 11 = .ok (.aload_n 0, 1) := by decide +kernel
theorem dX12_times_12 : decode cX12_times 12 = .ok (.iload_n 3, 1) := by decide +kernel
theorem dX12_times_13 : decode cX12_times 13 = .ok (.iload_n 1, 1) := by decide +kernel
theorem dX12_times_14 : decode cX12_times 14 = .ok (.invokevirtual 492, 3) := by decide +kernel
theorem dX12_times_17 : decode cX12_times 17 = .ok (.istore_n 3, 1) := by decide +kernel
theorem dX12_times_18 : decode cX12_times 18 = .ok (.iinc 4 1, 3) := by decide +kernel
theorem dX12_times_21 : decode cX12_times 21 = .ok (.goto (-16), 3) := by decide +kernel
theorem dX12_times_24 : decode cX12_times 24 = .ok (.iload_n 3, 1) := by decide +kernel
theorem dX12_times_25 : decode cX12_times 25 = .ok (.ireturn, 1) := by decide +kernel
theorem dX12_colours_0 : decode cX12_colours 0 = .ok (.aload_n 0, 1) := by decide +kernel
theorem dX12_colours_1 : decode cX12_colours 1 = .ok (.iconst 0, 1) := by decide +kernel
theorem dX12_colours_2 : decode cX12_colours 2 = .ok (.putfield 140, 3) := by decide +kernel
theorem dX12_colours_5 : decode cX12_colours 5 = .ok (.aload_n 0, 1) := by decide +kernel
theorem dX12_colours_6 : decode cX12_colours 6 = .ok (.iload_n 1, 1) := by decide +kernel
theorem dX12_colours_7 : decode cX12_colours 7 = .ok (.iconst 1, 1) := by decide +kernel
theorem dX12_colours_8 : decode cX12_colours 8 = .ok (.bipush 40, 2) := by decide +kernel
theorem dX12_colours_10 : decode cX12_colours 10 = .ok (.invokevirtual 165, 3) := by decide +kernel
theorem dX12_colours_13 : decode cX12_colours 13 = .ok (.ifCond .eq 24, 3) := by decide +kernel
theorem dX12_colours_16 : decode cX12_colours 16 = .ok (.aload_n 0, 1) := by decide +kernel
theorem dX12_colours_17 : decode cX12_colours 17 = .ok (.iload_n 2, 1) := by decide +kernel
theorem dX12_colours_18 : decode cX12_colours 18 = .ok (.iconst 1, 1) := by decide +kernel
theorem dX12_colours_19 : decode cX12_colours 19 = .ok (.bipush 9, 2) := by decide +kernel
theorem dX12_colours_21 : decode cX12_colours 21 = .ok (.invokevirtual 165, 3) := by decide +kernel
theorem dX12_colours_24 : decode cX12_colours 24 = .ok (.ifCond .eq 13, 3) := by decide +kernel
theorem dX12_colours_27 : decode cX12_colours 27 = .ok (.aload_n 0, 1) := by decide +kernel
theorem dX12_colours_28 : decode cX12_colours 28 = .ok (.iload_n 3, 1) := by decide +kernel
theorem dX12_colours_29 : decode cX12_colours 29 = .ok (.iconst 0, 1) := by decide +kernel
theorem dX12_colours_30 : decode cX12_colours 30 = .ok (.iconst 1, 1) := by decide +kernel
theorem dX12_colours_31 : decode cX12_colours 31 = .ok (.invokevirtual 165, 3) := by decide +kernel
theorem dX12_colours_34 : decode cX12_colours 34 = .ok (.ifCond .ne 5, 3) := by decide +kernel
theorem dX12_colours_37 : decode cX12_colours 37 = .ok (.iconst (-1), 1) := by decide +kernel
theorem dX12_colours_38 : decode cX12_colours 38 = .ok (.ireturn, 1) := by decide +kernel
theorem dX12_colours_39 : decode cX12_colours 39 = .ok (.iload_n 2, 1) := by decide +kernel
theorem dX12_colours_40 : decode cX12_colours 40 = .ok (.istore 4, 2) := by decide +kernel
theorem dX12_colours_42 : decode cX12_colours 42 = .ok (.iconst 0, 1) := by decide +kernel
theorem dX12_colours_43 : decode cX12_colours 43 = .ok (.istore 5, 2) := by decide +kernel
theorem dX12_colours_45 : decode cX12_colours 45 = .ok (.iconst 1, 1) := by decide +kernel
theorem dX12_colours_46 : decode cX12_colours 46 = .ok (.istore 6, 2) := by decide +kernel
theorem dX12_colours_48 : decode cX12_colours 48 = .ok (.iload 6, 2) := by decide +kernel
theorem dX12_colours_50 : decode cX12_colours 50 = .ok (.iload_n 1, 1) := by decide +kernel
theorem dX12_colours_51 : decode cX12_colours 51 = .ok (.if_icmp .ge 46, 3) := by decide +kernel
theorem dX12_colours_54 : decode cX12_colours 54 = .ok (.iload 4, 2) := by decide +kernel
theorem dX12_colours_56 : decode cX12_colours 56 = .ok (.istore 7, 2) := by decide +kernel
theorem dX12_colours_58 : decode cX12_colours 58 = .ok (.iload 5, 2) := by decide +kernel
theorem dX12_colours_60 : decode cX12_colours 60 = .ok (.istore 4, 2) := by decide +kernel
theorem dX12_colours_62 : decode cX12_colours 62 = .ok (.aload_n 0, 1) := by decide +kernel
theorem dX12_colours_63 : decode cX12_colours 63 = .ok (.aload_n 0, 1) := by decide +kernel
theorem dX12_colours_64 : decode cX12_colours 64 = .ok (.iload 7, 2) := by decide +kernel
theorem dX12_colours_66 : decode cX12_colours 66 = .ok (.iload_n 2, 1) := by decide +kernel
theorem dX12_colours_67 : decode cX12_colours 67 = .ok (.iconst 1, 1) := by decide +kernel
theorem dX12_colours_68 : decode cX12_colours 68 = .ok (.isub, 1) := by decide +kernel
theorem dX12_colours_69 : decode cX12_colours 69 = .ok (.invokevirtual 495, 3) := by decide +kernel
theorem dX12_colours_72 : decode cX12_colours 72 = .ok (.aload_n 0, 1) := by decide +kernel
theorem dX12_colours_73 : decode cX12_colours 73 = .ok (.iload 5, 2) := by decide +kernel
theorem dX12_colours_75 : decode cX12_colours 75 = .ok (.aload_n 0, 1) := by decide +kernel
theorem dX12_colours_76 : decode cX12_colours 76 = .ok (.iconst 0, 1) := by decide +kernel
theorem dX12_colours_77 : decode cX12_colours 77 = .ok (.iload_n 2, 1) := by decide +kernel
theorem dX12_colours_78 : decode cX12_colours 78 = .ok (.iconst 2, 1) := by decide +kernel
theorem dX12_colours_79 : decode cX12_colours 79 = .ok (.isub, 1) := by decide +kernel
theorem dX12_colours_80 : decode cX12_colours 80 = .ok (.invokevirtual 442, 3) := by decide +kernel
theorem dX12_colours_83 : decode cX12_colours 83 = .ok (.invokevirtual 495, 3) := by decide +kernel
theorem dX12_colours_86 : decode cX12_colours 86 = .ok (.invokevirtual 492, 3) := by decide +kernel
theorem dX12_colours_89 : decode cX12_colours 89 = .ok (.istore 5, 2) := by decide +kernel
theorem dX12_colours_91 : decode cX12_colours 91 = .ok (.iinc 6 1, 3) := by decide +kernel
theorem dX12_colours_94 : decode cX12_colours 94 = .ok (.goto (-46), 3) := by decide +kernel
theorem dX12_colours_97 : decode cX12_colours 97 = .ok (.iload_n 3, 1) := by decide +kernel
theorem dX12_colours_98 : decode cX12_colours 98 = .ok (.iconst 1, 1) := by decide +kernel
theorem dX12_colours_99 : decode cX12_colours 99 = .ok (.if_icmp .ne 11, 3) := by decide +kernel
theorem dX12_colours_102 : decode cX12_colours 102 = .ok (.iload_n 1, 1) := by decide +kernel
theorem dX12_colours_103 : decode cX12_colours 103 = .ok (.iconst 1, 1) := by decide +kernel
theorem dX12_colours_104 : decode cX12_colours 104 = .ok (.if_icmp .le 6, 3) := by decide +kernel
theorem dX12_colours_107 : decode cX12_colours 107 = .ok (.iload 5, 2) := by decide +kernel
theorem dX12_colours_109 : decode cX12_colours 109 = .ok (.ireturn, 1) := by decide +kernel
theorem dX12_colours_110 : decode cX12_colours 110 = .ok (.aload_n 0, 1) := by decide +kernel
theorem dX12_colours_111 : decode cX12_colours 111 = .ok (.iload 4, 2) := by decide +kernel
theorem dX12_colours_113 : decode cX12_colours 113 = .ok (.iload 5, 2) := by decide +kernel
theorem dX12_colours_115 : decode cX12_colours 115 = .ok (.invokevirtual 492, 3) := by decide +kernel
theorem dX12_colours_118 : decode cX12_colours 118 = .ok (.ireturn, 1) := by decide +kernel
theorem dX12_isWon_0 : decode cX12_isWon 0 = .ok (.aload_n 0, 1) := by decide +kernel
theorem dX12_isWon_1 : decode cX12_isWon 1 = .ok (.aload_n 0, 1) := by decide +kernel
theorem dX12_isWon_2 : decode cX12_isWon 2 = .ok (.getfield 134, 3) := by decide +kernel
theorem dX12_isWon_5 : decode cX12_isWon 5 = .ok (.iload_n 1, 1) := by decide +kernel
theorem dX12_isWon_6 : decode cX12_isWon 6 = .ok (.iconst 5, 1) := by decide +kernel
theorem dX12_isWon_7 : decode cX12_isWon 7 = .ok (.ishr, 1) := by decide +kernel
theorem dX12_isWon_8 : decode cX12_isWon 8 = .ok (.iaload, 1) := by decide +kernel
theorem dX12_isWon_9 : decode cX12_isWon 9 = .ok (.iload_n 1, 1) := by decide +kernel
theorem dX12_isWon_10 : decode cX12_isWon 10 = .ok (.bipush 31, 2) := by decide +kernel
theorem dX12_isWon_12 : decode cX12_isWon 12 = .ok (.iand, 1) := by decide +kernel
theorem dX12_isWon_13 : decode cX12_isWon 13 = .ok (.invokevirtual 372, 3) := by decide +kernel
theorem dX12_isWon_16 : decode cX12_isWon 16 = .ok (.ireturn, 1) := by decide +kernel
theorem dX12_goodLaying_0 : decode cX12_goodLaying 0 = .ok (.iconst 0, 1) := by decide +kernel
theorem dX12_goodLaying_1 : decode cX12_goodLaying 1 = .ok (.istore 4, 2) := by decide +kernel
theorem dX12_goodLaying_3 : decode cX12_goodLaying 3 = .ok (.iload 4, 2) := by decide +kernel
theorem dX12_goodLaying_5 : decode cX12_goodLaying 5 = .ok (.iload_n 1, 1) := by decide +kernel
theorem dX12_goodLaying_6 : decode cX12_goodLaying 6 = .ok (.iload_n 2, 1) := by decide +kernel
theorem dX12_goodLaying_7 : decode cX12_goodLaying 7 = .ok (.imul, 1) := by decide +kernel
theorem dX12_goodLaying_8 : decode cX12_goodLaying 8 = .ok (.if_icmp .ge 121, 3) := by decide +kernel
theorem dX12_goodLaying_11 : decode cX12_goodLaying 11 = .ok (.iconst 0, 1) := by decide +kernel
theorem dX12_goodLaying_12 : decode cX12_goodLaying 12 = .ok (.istore 5, 2) := by decide +kernel
theorem dX12_goodLaying_14 : decode cX12_goodLaying 14 = .ok (.iload 5, 2) := by decide +kernel
theorem dX12_goodLaying_16 : decode cX12_goodLaying 16 = .ok (.iconst 2, 1) := by decide +kernel
theorem dX12_goodLaying_17 : decode cX12_goodLaying 17 = .ok (.if_icmp .ge 106, 3) := by decide +kernel
theorem dX12_goodLaying_20 : decode cX12_goodLaying 20 = .ok (.iload 5, 2) := by decide +kernel
theorem dX12_goodLaying_22 : decode cX12_goodLaying 22 = .ok (.iconst 1, 1) := by decide +kernel
theorem dX12_goodLaying_23 : decode cX12_goodLaying 23 = .ok (.if_icmp .ne 10, 3) := by decide +kernel
theorem dX12_goodLaying_26 : decode cX12_goodLaying 26 = .ok (.iload 4, 2) := by decide +kernel
theorem dX12_goodLaying_28 : decode cX12_goodLaying 28 = .ok (.iload_n 1, 1) := by decide +kernel
theorem dX12_goodLaying_29 : decode cX12_goodLaying 29 = .ok (.iadd, 1) := by decide +kernel
theorem dX12_goodLaying_30 : decode cX12_goodLaying 30 = .ok (.goto 7, 3) := by decide +kernel
theorem dX12_goodLaying_33 : decode cX12_goodLaying 33 = .ok (.iload 4, 2) := by decide +kernel
theorem dX12_goodLaying_35 : decode cX12_goodLaying 35 = .ok (.iconst 1, 1) := by decide +kernel
theorem dX12_goodLaying_36 : decode cX12_goodLaying 36 = .ok (.iadd, 1) := by decide +kernel
theorem dX12_goodLaying_37 : decode cX12_goodLaying 37 = .ok (.istore 6, 2) := by decide +kernel
theorem dX12_goodLaying_39 : decode cX12_goodLaying 39 = .ok (.iload 5, 2) := by decide +kernel
theorem dX12_goodLaying_41 : decode cX12_goodLaying 41 = .ok (.iconst 1, 1) := by decide +kernel
theorem dX12_goodLaying_42 : decode cX12_goodLaying 42 = .ok (.if_icmp .ne 19, 3) := by decide +kernel
theorem dX12_goodLaying_45 : decode cX12_goodLaying 45 = .ok (.iload 6, 2) := by decide +kernel
theorem dX12_goodLaying_47 : decode cX12_goodLaying 47 = .ok (.iload_n 1, 1) := by decide +kernel
theorem dX12_goodLaying_48 : decode cX12_goodLaying 48 = .ok (.iload_n 2, 1) := by decide +kernel
theorem dX12_goodLaying_49 : decode cX12_goodLaying 49 = .ok (.imul, 1) := by decide +kernel
theorem dX12_goodLaying_50 : decode cX12_goodLaying 50 = .ok (.if_icmp .ge 7, 3) := by decide +kernel
theorem dX12_goodLaying_53 : decode cX12_goodLaying 53 = .ok (.iconst 1, 1) := by decide +kernel
theorem dX12_goodLaying_54 : decode cX12_goodLaying 54 = .ok (.goto 19, 3) := by decide +kernel
theorem dX12_goodLaying_57 : decode cX12_goodLaying 57 = .ok (.iconst 0, 1) := by decide +kernel
theorem dX12_goodLaying_58 : decode cX12_goodLaying 58 = .ok (.goto 15, 3) := by decide +kernel
theorem dX12_goodLaying_61 : decode cX12_goodLaying 61 = .ok (.iload 6, 2) := by decide +kernel
theorem dX12_goodLaying_63 : decode cX12_goodLaying 63 = .ok (.iload_n 1, 1) := by decide +kernel
theorem dX12_goodLaying_64 : decode cX12_goodLaying 64 = .ok (.irem, 1) := by decide +kernel
theorem dX12_goodLaying_65 : decode cX12_goodLaying 65 = .ok (.ifCond .eq 7, 3) := by decide +kernel
theorem dX12_goodLaying_68 : decode cX12_goodLaying 68 = .ok (.iconst 1, 1) := by decide +kernel
theorem dX12_goodLaying_69 : decode cX12_goodLaying 69 = .ok (.goto 4, 3) := by decide +kernel
theorem dX12_goodLaying_72 : decode cX12_goodLaying 72 = .ok (.iconst 0, 1) := by decide +kernel
theorem dX12_goodLaying_73 : decode cX12_goodLaying 73 = .ok (.istore 7, 2) := by decide +kernel
theorem dX12_goodLaying_75 : decode cX12_goodLaying 75 = .ok (.iconst 1, 1) := by decide +kernel
theorem dX12_goodLaying_76 : decode cX12_goodLaying 76 = .ok (.iload 4, 2) := by decide +kernel
theorem dX12_goodLaying_78 : decode cX12_goodLaying 78 = .ok (.ishl, 1) := by decide +kernel
theorem dX12_goodLaying_79 : decode cX12_goodLaying 79 = .ok (.iconst 1, 1) := by decide +kernel
theorem dX12_goodLaying_80 : decode cX12_goodLaying 80 = .ok (.iload 6, 2) := by decide +kernel
theorem dX12_goodLaying_82 : decode cX12_goodLaying 82 = .ok (.ishl, 1) := by decide +kernel
theorem dX12_goodLaying_83 : decode cX12_goodLaying 83 = .ok (.ior, 1) := by decide +kernel
theorem dX12_goodLaying_84 : decode cX12_goodLaying 84 = .ok (.istore 8, 2) := by decide +kernel
theorem dX12_goodLaying_86 : decode cX12_goodLaying 86 = .ok (.iload 7, 2) := by decide +kernel
theorem dX12_goodLaying_88 : decode cX12_goodLaying 88 = .ok (.ifCond .eq 29, 3) := by decide +kernel
theorem dX12_goodLaying_91 : decode cX12_goodLaying 91 = .ok (.iload_n 3, 1) := by decide +kernel
theorem dX12_goodLaying_92 : decode cX12_goodLaying 92 = .ok (.iload 8, 2) := by decide +kernel
theorem dX12_goodLaying_94 : decode cX12_goodLaying 94 = .ok (.iand, 1) := by decide +kernel
theorem dX12_goodLaying_95 : decode cX12_goodLaying 95 = .ok (.ifCond .ne 22, 3) := by decide +kernel
theorem dX12_goodLaying_98 : decode cX12_goodLaying 98 = .ok (.aload_n 0, 1) := by decide +kernel
theorem dX12_goodLaying_99 : decode cX12_goodLaying 99 = .ok (.iload_n 3, 1) := by decide +kernel
theorem dX12_goodLaying_100 : decode cX12_goodLaying 100 = .ok (.iload 8, 2) := by decide +kernel
theorem dX12_goodLaying_102 : decode cX12_goodLaying 102 = .ok (.ior, 1) := by decide +kernel
theorem dX12_goodLaying_103 : decode cX12_goodLaying 103 = .ok (.invokevirtual 498, 3) := by decide +kernel
theorem dX12_goodLaying_106 : decode cX12_goodLaying 106 = .ok (.ifCond .ne 11, 3) := by decide +kernel
theorem dX12_goodLaying_109 : decode cX12_goodLaying 109 = .ok (.iconst 2, 1) := by decide +kernel
theorem dX12_goodLaying_110 : decode cX12_goodLaying 110 = .ok (.iload 4, 2) := by decide +kernel
theorem dX12_goodLaying_112 : decode cX12_goodLaying 112 = .ok (.imul, 1) := by decide +kernel
theorem dX12_goodLaying_113 : decode cX12_goodLaying 113 = .ok (.iload 5, 2) := by decide +kernel
theorem dX12_goodLaying_115 : decode cX12_goodLaying 115 = .ok (.iadd, 1) := by decide +kernel
theorem dX12_goodLaying_116 : decode cX12_goodLaying 116 = .ok (.ireturn, 1) := by decide +kernel
theorem dX12_goodLaying_117 : decode cX12_goodLaying 117 = .ok (.iinc 5 1, 3) := by decide +kernel
theorem dX12_goodLaying_120 : decode cX12_goodLaying 120 = .ok (.goto (-106), 3) := by decide +kernel
theorem dX12_goodLaying_123 : decode cX12_goodLaying 123 = .ok (.iinc 4 1, 3) := by decide +kernel
theorem dX12_goodLaying_126 : decode cX12_goodLaying 126 = .ok (.goto (-123), 3) := by decide +kernel
theorem dX12_goodLaying_129 : decode cX12_goodLaying 129 = .ok (.iconst (-1), 1) := by decide +kernel
theorem dX12_goodLaying_130 : decode cX12_goodLaying 130 = .ok (.ireturn, 1) := by decide +kernel
theorem dX12_game_0 : decode cX12_game 0 = .ok (.aload_n 0, 1) := by decide +kernel
theorem dX12_game_1 : decode cX12_game 1 = .ok (.iconst 0, 1) := by decide +kernel
theorem dX12_game_2 : decode cX12_game 2 = .ok (.putfield 140, 3) := by decide +kernel
theorem dX12_game_5 : decode cX12_game 5 = .ok (.aload_n 0, 1) := by decide +kernel
theorem dX12_game_6 : decode cX12_game 6 = .ok (.iload_n 1, 1) := by decide +kernel
theorem dX12_game_7 : decode cX12_game 7 = .ok (.iconst 1, 1) := by decide +kernel
theorem dX12_game_8 : decode cX12_game 8 = .ok (.iconst 4, 1) := by decide +kernel
theorem dX12_game_9 : decode cX12_game 9 = .ok (.invokevirtual 165, 3) := by decide +kernel
theorem dX12_game_12 : decode cX12_game 12 = .ok (.ifCond .eq 29, 3) := by decide +kernel
theorem dX12_game_15 : decode cX12_game 15 = .ok (.aload_n 0, 1) := by decide +kernel
theorem dX12_game_16 : decode cX12_game 16 = .ok (.iload_n 2, 1) := by decide +kernel
theorem dX12_game_17 : decode cX12_game 17 = .ok (.iconst 1, 1) := by decide +kernel
theorem dX12_game_18 : decode cX12_game 18 = .ok (.iconst 4, 1) := by decide +kernel
theorem dX12_game_19 : decode cX12_game 19 = .ok (.invokevirtual 165, 3) := by decide +kernel
theorem dX12_game_22 : decode cX12_game 22 = .ok (.ifCond .eq 19, 3) := by decide +kernel
theorem dX12_game_25 : decode cX12_game 25 = .ok (.aload_n 0, 1) := by decide +kernel
theorem dX12_game_26 : decode cX12_game 26 = .ok (.iload_n 3, 1) := by decide +kernel
theorem dX12_game_27 : decode cX12_game 27 = .ok (.iconst 0, 1) := by decide +kernel
theorem dX12_game_28 : decode cX12_game 28 = .ok (.iconst 1, 1) := by decide +kernel
theorem dX12_game_29 : decode cX12_game 29 = .ok (.iload_n 1, 1) := by decide +kernel
theorem dX12_game_30 : decode cX12_game 30 = .ok (.iload_n 2, 1) := by decide +kernel
theorem dX12_game_31 : decode cX12_game 31 = .ok (.imul, 1) := by decide +kernel
theorem dX12_game_32 : decode cX12_game 32 = .ok (.ishl, 1) := by decide +kernel
theorem dX12_game_33 : decode cX12_game 33 = .ok (.iconst 1, 1) := by decide +kernel
theorem dX12_game_34 : decode cX12_game 34 = .ok (.isub, 1) := by decide +kernel
theorem dX12_game_35 : decode cX12_game 35 = .ok (.invokevirtual 165, 3) := by decide +kernel
theorem dX12_game_38 : decode cX12_game 38 = .ok (.ifCond .ne 5, 3) := by decide +kernel
theorem dX12_game_41 : decode cX12_game 41 = .ok (.iconst (-1), 1) := by decide +kernel
theorem dX12_game_42 : decode cX12_game 42 = .ok (.ireturn, 1) := by decide +kernel
theorem dX12_game_43 : decode cX12_game 43 = .ok (.iconst 1, 1) := by decide +kernel
theorem dX12_game_44 : decode cX12_game 44 = .ok (.iload_n 1, 1) := by decide +kernel
theorem dX12_game_45 : decode cX12_game 45 = .ok (.iload_n 2, 1) := by decide +kernel
theorem dX12_game_46 : decode cX12_game 46 = .ok (.imul, 1) := by decide +kernel
theorem dX12_game_47 : decode cX12_game 47 = .ok (.ishl, 1) := by decide +kernel
theorem dX12_game_48 : decode cX12_game 48 = .ok (.iconst 1, 1) := by decide +kernel
theorem dX12_game_49 : decode cX12_game 49 = .ok (.isub, 1) := by decide +kernel
theorem dX12_game_50 : decode cX12_game 50 = .ok (.istore 4, 2) := by decide +kernel
theorem dX12_game_52 : decode cX12_game 52 = .ok (.iload 4, 2) := by decide +kernel
theorem dX12_game_54 : decode cX12_game 54 = .ok (.iload_n 3, 1) := by decide +kernel
theorem dX12_game_55 : decode cX12_game 55 = .ok (.if_icmp .le 77, 3) := by decide +kernel
theorem dX12_game_58 : decode cX12_game 58 = .ok (.iconst 1, 1) := by decide +kernel
theorem dX12_game_59 : decode cX12_game 59 = .ok (.iload 4, 2) := by decide +kernel
theorem dX12_game_61 : decode cX12_game 61 = .ok (.bipush 31, 2) := by decide +kernel
theorem dX12_game_63 : decode cX12_game 63 = .ok (.iand, 1) := by decide +kernel
theorem dX12_game_64 : decode cX12_game 64 = .ok (.ishl, 1) := by decide +kernel
theorem dX12_game_65 : decode cX12_game 65 = .ok (.istore 5, 2) := by decide +kernel
theorem dX12_game_67 : decode cX12_game 67 = .ok (.aload_n 0, 1) := by decide +kernel
theorem dX12_game_68 : decode cX12_game 68 = .ok (.iload_n 1, 1) := by decide +kernel
theorem dX12_game_69 : decode cX12_game 69 = .ok (.iload_n 2, 1) := by decide +kernel
theorem dX12_game_70 : decode cX12_game 70 = .ok (.iload 4, 2) := by decide +kernel
theorem dX12_game_72 : decode cX12_game 72 = .ok (.invokevirtual 501, 3) := by decide +kernel
theorem dX12_game_75 : decode cX12_game 75 = .ok (.iconst (-1), 1) := by decide +kernel
theorem dX12_game_76 : decode cX12_game 76 = .ok (.if_icmp .ne 29, 3) := by decide +kernel
theorem dX12_game_79 : decode cX12_game 79 = .ok (.aload_n 0, 1) := by decide +kernel
theorem dX12_game_80 : decode cX12_game 80 = .ok (.getfield 134, 3) := by decide +kernel
theorem dX12_game_83 : decode cX12_game 83 = .ok (.iload 4, 2) := by decide +kernel
theorem dX12_game_85 : decode cX12_game 85 = .ok (.iconst 5, 1) := by decide +kernel
theorem dX12_game_86 : decode cX12_game 86 = .ok (.ishr, 1) := by decide +kernel
theorem dX12_game_87 : decode cX12_game 87 = .ok (.aload_n 0, 1) := by decide +kernel
theorem dX12_game_88 : decode cX12_game 88 = .ok (.getfield 134, 3) := by decide +kernel
theorem dX12_game_91 : decode cX12_game 91 = .ok (.iload 4, 2) := by decide +kernel
theorem dX12_game_93 : decode cX12_game 93 = .ok (.iconst 5, 1) := by decide +kernel
theorem dX12_game_94 : decode cX12_game 94 = .ok (.ishr, 1) := by decide +kernel
theorem dX12_game_95 : decode cX12_game 95 = .ok (.iaload, 1) := by decide +kernel
theorem dX12_game_96 : decode cX12_game 96 = .ok (.iload 5, 2) := by decide +kernel
theorem dX12_game_98 : decode cX12_game 98 = .ok (.iconst (-1), 1) := by decide +kernel
theorem dX12_game_99 : decode cX12_game 99 = .ok (.ixor, 1) := by decide +kernel
theorem dX12_game_100 : decode cX12_game 100 = .ok (.iand, 1) := by decide +kernel
theorem dX12_game_101 : decode cX12_game 101 = .ok (.iastore, 1) := by decide +kernel
theorem dX12_game_102 : decode cX12_game 102 = .ok (.goto 24, 3) := by decide +kernel
theorem dX12_game_105 : decode cX12_game 105 = .ok (.aload_n 0, 1) := by decide +kernel
theorem dX12_game_106 : decode cX12_game 106 = .ok (.getfield 134, 3) := by decide +kernel
theorem dX12_game_109 : decode cX12_game 109 = .ok (.iload 4, 2) := by decide +kernel
theorem dX12_game_111 : decode cX12_game 111 = .ok (.iconst 5, 1) := by decide +kernel
theorem dX12_game_112 : decode cX12_game 112 = .ok (.ishr, 1) := by decide +kernel
theorem dX12_game_113 : decode cX12_game 113 = .ok (.aload_n 0, 1) := by decide +kernel
theorem dX12_game_114 : decode cX12_game 114 = .ok (.getfield 134, 3) := by decide +kernel
theorem dX12_game_117 : decode cX12_game 117 = .ok (.iload 4, 2) := by decide +kernel
theorem dX12_game_119 : decode cX12_game 119 = .ok (.iconst 5, 1) := by decide +kernel
theorem dX12_game_120 : decode cX12_game 120 = .ok (.ishr, 1) := by decide +kernel
theorem dX12_game_121 : decode cX12_game 121 = .ok (.iaload, 1) := by decide +kernel
theorem dX12_game_122 : decode cX12_game 122 = .ok (.iload 5, 2) := by decide +kernel
theorem dX12_game_124 : decode cX12_game 124 = .ok (.ior, 1) := by decide +kernel
theorem dX12_game_125 : decode cX12_game 125 = .ok (.iastore, 1) := by decide +kernel
theorem dX12_game_126 : decode cX12_game 126 = .ok (.iinc 4 (-1), 3) := by decide +kernel
theorem dX12_game_129 : decode cX12_game 129 = .ok (.goto (-77), 3) := by decide +kernel
theorem dX12_game_132 : decode cX12_game 132 = .ok (.aload_n 0, 1) := by decide +kernel
theorem dX12_game_133 : decode cX12_game 133 = .ok (.iload_n 1, 1) := by decide +kernel
theorem dX12_game_134 : decode cX12_game 134 = .ok (.iload_n 2, 1) := by decide +kernel
theorem dX12_game_135 : decode cX12_game 135 = .ok (.iload_n 3, 1) := by decide +kernel
theorem dX12_game_136 : decode cX12_game 136 = .ok (.invokevirtual 501, 3) := by decide +kernel
theorem dX12_game_139 : decode cX12_game 139 = .ok (.ireturn, 1) := by decide +kernel
theorem dX12_keeps_0 : decode cX12_keeps 0 = .ok (.aload_n 0, 1) := by decide +kernel
theorem dX12_keeps_1 : decode cX12_keeps 1 = .ok (.aload_n 0, 1) := by decide +kernel
theorem dX12_keeps_2 : decode cX12_keeps 2 = .ok (.getfield 504, 3) := by decide +kernel
theorem dX12_keeps_5 : decode cX12_keeps 5 = .ok (.iconst 1, 1) := by decide +kernel
theorem dX12_keeps_6 : decode cX12_keeps 6 = .ok (.iadd, 1) := by decide +kernel
theorem dX12_keeps_7 : decode cX12_keeps 7 = .ok (.putfield 504, 3) := by decide +kernel
theorem dX12_keeps_10 : decode cX12_keeps 10 = .ok (.aload_n 0, 1) := by decide +kernel
theorem dX12_keeps_11 : decode cX12_keeps 11 = .ok (.getfield 507, 3) := by decide +kernel
theorem dX12_keeps_14 : decode cX12_keeps 14 = .ok (.ifCond .ne 15, 3) := by decide +kernel
theorem dX12_keeps_17 : decode cX12_keeps 17 = .ok (.aload_n 0, 1) := by decide +kernel
theorem dX12_keeps_18 : decode cX12_keeps 18 = .ok (.getfield 137, 3) := by decide +kernel
theorem dX12_keeps_21 : decode cX12_keeps 21 = .ok (.aload_n 0, 1) := by decide +kernel
theorem dX12_keeps_22 : decode cX12_keeps 22 = .ok (.getfield 504, 3) := by decide +kernel
theorem dX12_keeps_25 : decode cX12_keeps 25 = .ok (.iconst 1, 1) := by decide +kernel
theorem dX12_keeps_26 : decode cX12_keeps 26 = .ok (.isub, 1) := by decide +kernel
theorem dX12_keeps_27 : decode cX12_keeps 27 = .ok (.iaload, 1) := by decide +kernel
theorem dX12_keeps_28 : decode cX12_keeps 28 = .ok (.ireturn, 1) := by decide +kernel
theorem dX12_keeps_29 : decode cX12_keeps 29 = .ok (.aload_n 0, 1) := by decide +kernel
theorem dX12_keeps_30 : decode cX12_keeps 30 = .ok (.getfield 137, 3) := by decide +kernel
theorem dX12_keeps_33 : decode cX12_keeps 33 = .ok (.aload_n 0, 1) := by decide +kernel
theorem dX12_keeps_34 : decode cX12_keeps 34 = .ok (.getfield 504, 3) := by decide +kernel
theorem dX12_keeps_37 : decode cX12_keeps 37 = .ok (.iconst 1, 1) := by decide +kernel
theorem dX12_keeps_38 : decode cX12_keeps 38 = .ok (.isub, 1) := by decide +kernel
theorem dX12_keeps_39 : decode cX12_keeps 39 = .ok (.iload_n 1, 1) := by decide +kernel
theorem dX12_keeps_40 : decode cX12_keeps 40 = .ok (.iastore, 1) := by decide +kernel
theorem dX12_keeps_41 : decode cX12_keeps 41 = .ok (.iload_n 1, 1) := by decide +kernel
theorem dX12_keeps_42 : decode cX12_keeps 42 = .ok (.ireturn, 1) := by decide +kernel
theorem dX12_keepsLaw_0 : decode cX12_keepsLaw 0 = .ok (.aload_n 0, 1) := by decide +kernel
theorem dX12_keepsLaw_1 : decode cX12_keepsLaw 1 = .ok (.getfield 40, 3) := by decide +kernel
theorem dX12_keepsLaw_4 : decode cX12_keepsLaw 4 = .ok (.iconst 0, 1) := by decide +kernel
theorem dX12_keepsLaw_5 : decode cX12_keepsLaw 5 = .ok (.aload_n 0, 1) := by decide +kernel
theorem dX12_keepsLaw_6 : decode cX12_keepsLaw 6 = .ok (.aload_n 0, 1) := by decide +kernel
theorem dX12_keepsLaw_7 : decode cX12_keepsLaw 7 = .ok (.getfield 40, 3) := by decide +kernel
theorem dX12_keepsLaw_10 : decode cX12_keepsLaw 10 = .ok (.iconst 0, 1) := by decide +kernel
theorem dX12_keepsLaw_11 : decode cX12_keepsLaw 11 = .ok (.iaload, 1) := by decide +kernel
theorem dX12_keepsLaw_12 : decode cX12_keepsLaw 12 = .ok (.invokevirtual 510, 3) := by decide +kernel
theorem dX12_keepsLaw_15 : decode cX12_keepsLaw 15 = .ok (.iastore, 1) := by decide +kernel
theorem dX12_keepsLaw_16 : decode cX12_keepsLaw 16 = .ok (.iconst 0, 1) := by decide +kernel
theorem dX12_keepsLaw_17 : decode cX12_keepsLaw 17 = .ok (.istore_n 1, 1) := by decide +kernel
theorem dX12_keepsLaw_18 : decode cX12_keepsLaw 18 = .ok (.iload_n 1, 1) := by decide +kernel
theorem dX12_keepsLaw_19 : decode cX12_keepsLaw 19 = .ok (.bipush 16, 2) := by decide +kernel
theorem dX12_keepsLaw_21 : decode cX12_keepsLaw 21 = .ok (.if_icmp .ge 73, 3) := by decide +kernel
theorem dX12_keepsLaw_24 : decode cX12_keepsLaw 24 = .ok (.aload_n 0, 1) := by decide +kernel
theorem dX12_keepsLaw_25 : decode cX12_keepsLaw 25 = .ok (.getfield 43, 3) := by decide +kernel
theorem dX12_keepsLaw_28 : decode cX12_keepsLaw 28 = .ok (.iload_n 1, 1) := by decide +kernel
theorem dX12_keepsLaw_29 : decode cX12_keepsLaw 29 = .ok (.aload_n 0, 1) := by decide +kernel
theorem dX12_keepsLaw_30 : decode cX12_keepsLaw 30 = .ok (.aload_n 0, 1) := by decide +kernel
theorem dX12_keepsLaw_31 : decode cX12_keepsLaw 31 = .ok (.getfield 43, 3) := by decide +kernel
theorem dX12_keepsLaw_34 : decode cX12_keepsLaw 34 = .ok (.iload_n 1, 1) := by decide +kernel
theorem dX12_keepsLaw_35 : decode cX12_keepsLaw 35 = .ok (.iaload, 1) := by decide +kernel
theorem dX12_keepsLaw_36 : decode cX12_keepsLaw 36 = .ok (.invokevirtual 510, 3) := by decide +kernel
theorem dX12_keepsLaw_39 : decode cX12_keepsLaw 39 = .ok (.iastore, 1) := by decide +kernel
theorem dX12_keepsLaw_40 : decode cX12_keepsLaw 40 = .ok (.aload_n 0, 1) := by decide +kernel
theorem dX12_keepsLaw_41 : decode cX12_keepsLaw 41 = .ok (.getfield 46, 3) := by decide +kernel
theorem dX12_keepsLaw_44 : decode cX12_keepsLaw 44 = .ok (.iload_n 1, 1) := by decide +kernel
theorem dX12_keepsLaw_45 : decode cX12_keepsLaw 45 = .ok (.aload_n 0, 1) := by decide +kernel
theorem dX12_keepsLaw_46 : decode cX12_keepsLaw 46 = .ok (.aload_n 0, 1) := by decide +kernel
theorem dX12_keepsLaw_47 : decode cX12_keepsLaw 47 = .ok (.getfield 46, 3) := by decide +kernel
theorem dX12_keepsLaw_50 : decode cX12_keepsLaw 50 = .ok (.iload_n 1, 1) := by decide +kernel
theorem dX12_keepsLaw_51 : decode cX12_keepsLaw 51 = .ok (.iaload, 1) := by decide +kernel
theorem dX12_keepsLaw_52 : decode cX12_keepsLaw 52 = .ok (.invokevirtual 510, 3) := by decide +kernel
theorem dX12_keepsLaw_55 : decode cX12_keepsLaw 55 = .ok (.iastore, 1) := by decide +kernel
theorem dX12_keepsLaw_56 : decode cX12_keepsLaw 56 = .ok (.aload_n 0, 1) := by decide +kernel
theorem dX12_keepsLaw_57 : decode cX12_keepsLaw 57 = .ok (.getfield 49, 3) := by decide +kernel
theorem dX12_keepsLaw_60 : decode cX12_keepsLaw 60 = .ok (.iload_n 1, 1) := by decide +kernel
theorem dX12_keepsLaw_61 : decode cX12_keepsLaw 61 = .ok (.aload_n 0, 1) := by decide +kernel
theorem dX12_keepsLaw_62 : decode cX12_keepsLaw 62 = .ok (.aload_n 0, 1) := by decide +kernel
theorem dX12_keepsLaw_63 : decode cX12_keepsLaw 63 = .ok (.getfield 49, 3) := by decide +kernel
theorem dX12_keepsLaw_66 : decode cX12_keepsLaw 66 = .ok (.iload_n 1, 1) := by decide +kernel
theorem dX12_keepsLaw_67 : decode cX12_keepsLaw 67 = .ok (.iaload, 1) := by decide +kernel
theorem dX12_keepsLaw_68 : decode cX12_keepsLaw 68 = .ok (.invokevirtual 510, 3) := by decide +kernel
theorem dX12_keepsLaw_71 : decode cX12_keepsLaw 71 = .ok (.iastore, 1) := by decide +kernel
theorem dX12_keepsLaw_72 : decode cX12_keepsLaw 72 = .ok (.aload_n 0, 1) := by decide +kernel
theorem dX12_keepsLaw_73 : decode cX12_keepsLaw 73 = .ok (.getfield 52, 3) := by decide +kernel
theorem dX12_keepsLaw_76 : decode cX12_keepsLaw 76 = .ok (.iload_n 1, 1) := by decide +kernel
theorem dX12_keepsLaw_77 : decode cX12_keepsLaw 77 = .ok (.aload_n 0, 1) := by decide +kernel
theorem dX12_keepsLaw_78 : decode cX12_keepsLaw 78 = .ok (.aload_n 0, 1) := by decide +kernel
theorem dX12_keepsLaw_79 : decode cX12_keepsLaw 79 = .ok (.getfield 52, 3) := by decide +kernel
theorem dX12_keepsLaw_82 : decode cX12_keepsLaw 82 = .ok (.iload_n 1, 1) := by decide +kernel
theorem dX12_keepsLaw_83 : decode cX12_keepsLaw 83 = .ok (.iaload, 1) := by decide +kernel
theorem dX12_keepsLaw_84 : decode cX12_keepsLaw 84 = .ok (.invokevirtual 510, 3) := by decide +kernel
theorem dX12_keepsLaw_87 : decode cX12_keepsLaw 87 = .ok (.iastore, 1) := by decide +kernel
theorem dX12_keepsLaw_88 : decode cX12_keepsLaw 88 = .ok (.iinc 1 1, 3) := by decide +kernel
theorem dX12_keepsLaw_91 : decode cX12_keepsLaw 91 = .ok (.goto (-73), 3) := by decide +kernel
theorem dX12_keepsLaw_94 : decode cX12_keepsLaw 94 = .ok (.iconst 0, 1) := by decide +kernel
theorem dX12_keepsLaw_95 : decode cX12_keepsLaw 95 = .ok (.istore_n 1, 1) := by decide +kernel
theorem dX12_keepsLaw_96 : decode cX12_keepsLaw 96 = .ok (.iload_n 1, 1) := by decide +kernel
theorem dX12_keepsLaw_97 : decode cX12_keepsLaw 97 = .ok (.sipush 400, 3) := by decide +kernel
theorem dX12_keepsLaw_100 : decode cX12_keepsLaw 100 = .ok (.if_icmp .ge 41, 3) := by decide +kernel
theorem dX12_keepsLaw_103 : decode cX12_keepsLaw 103 = .ok (.aload_n 0, 1) := by decide +kernel
theorem dX12_keepsLaw_104 : decode cX12_keepsLaw 104 = .ok (.getfield 55, 3) := by decide +kernel
theorem dX12_keepsLaw_107 : decode cX12_keepsLaw 107 = .ok (.iload_n 1, 1) := by decide +kernel
theorem dX12_keepsLaw_108 : decode cX12_keepsLaw 108 = .ok (.aload_n 0, 1) := by decide +kernel
theorem dX12_keepsLaw_109 : decode cX12_keepsLaw 109 = .ok (.aload_n 0, 1) := by decide +kernel
theorem dX12_keepsLaw_110 : decode cX12_keepsLaw 110 = .ok (.getfield 55, 3) := by decide +kernel
theorem dX12_keepsLaw_113 : decode cX12_keepsLaw 113 = .ok (.iload_n 1, 1) := by decide +kernel
theorem dX12_keepsLaw_114 : decode cX12_keepsLaw 114 = .ok (.iaload, 1) := by decide +kernel
theorem dX12_keepsLaw_115 : decode cX12_keepsLaw 115 = .ok (.invokevirtual 510, 3) := by decide +kernel
theorem dX12_keepsLaw_118 : decode cX12_keepsLaw 118 = .ok (.iastore, 1) := by decide +kernel
theorem dX12_keepsLaw_119 : decode cX12_keepsLaw 119 = .ok (.aload_n 0, 1) := by decide +kernel
theorem dX12_keepsLaw_120 : decode cX12_keepsLaw 120 = .ok (.getfield 58, 3) := by decide +kernel
theorem dX12_keepsLaw_123 : decode cX12_keepsLaw 123 = .ok (.iload_n 1, 1) := by decide +kernel
theorem dX12_keepsLaw_124 : decode cX12_keepsLaw 124 = .ok (.aload_n 0, 1) := by decide +kernel
theorem dX12_keepsLaw_125 : decode cX12_keepsLaw 125 = .ok (.aload_n 0, 1) := by decide +kernel
theorem dX12_keepsLaw_126 : decode cX12_keepsLaw 126 = .ok (.getfield 58, 3) := by decide +kernel
theorem dX12_keepsLaw_129 : decode cX12_keepsLaw 129 = .ok (.iload_n 1, 1) := by decide +kernel
theorem dX12_keepsLaw_130 : decode cX12_keepsLaw 130 = .ok (.iaload, 1) := by decide +kernel
theorem dX12_keepsLaw_131 : decode cX12_keepsLaw 131 = .ok (.invokevirtual 510, 3) := by decide +kernel
theorem dX12_keepsLaw_134 : decode cX12_keepsLaw 134 = .ok (.iastore, 1) := by decide +kernel
theorem dX12_keepsLaw_135 : decode cX12_keepsLaw 135 = .ok (.iinc 1 1, 3) := by decide +kernel
theorem dX12_keepsLaw_138 : decode cX12_keepsLaw 138 = .ok (.goto (-42), 3) := by decide +kernel
theorem dX12_keepsLaw_141 : decode cX12_keepsLaw 141 = .ok (.return_, 1) := by decide +kernel
theorem dX12_keepsMany_0 : decode cX12_keepsMany 0 = .ok (.aload_n 0, 1) := by decide +kernel
theorem dX12_keepsMany_1 : decode cX12_keepsMany 1 = .ok (.aload_n 0, 1) := by decide +kernel
theorem dX12_keepsMany_2 : decode cX12_keepsMany 2 = .ok (.aload_n 0, 1) := by decide +kernel
theorem dX12_keepsMany_3 : decode cX12_keepsMany 3 = .ok (.getfield 156, 3) := by decide +kernel
theorem dX12_keepsMany_6 : decode cX12_keepsMany 6 = .ok (.invokevirtual 510, 3) := by decide +kernel
theorem dX12_keepsMany_9 : decode cX12_keepsMany 9 = .ok (.putfield 156, 3) := by decide +kernel
theorem dX12_keepsMany_12 : decode cX12_keepsMany 12 = .ok (.aload_n 0, 1) := by decide +kernel
theorem dX12_keepsMany_13 : decode cX12_keepsMany 13 = .ok (.aload_n 0, 1) := by decide +kernel
theorem dX12_keepsMany_14 : decode cX12_keepsMany 14 = .ok (.aload_n 0, 1) := by decide +kernel
theorem dX12_keepsMany_15 : decode cX12_keepsMany 15 = .ok (.getfield 159, 3) := by decide +kernel
theorem dX12_keepsMany_18 : decode cX12_keepsMany 18 = .ok (.invokevirtual 510, 3) := by decide +kernel
theorem dX12_keepsMany_21 : decode cX12_keepsMany 21 = .ok (.putfield 159, 3) := by decide +kernel
theorem dX12_keepsMany_24 : decode cX12_keepsMany 24 = .ok (.aload_n 0, 1) := by decide +kernel
theorem dX12_keepsMany_25 : decode cX12_keepsMany 25 = .ok (.aload_n 0, 1) := by decide +kernel
theorem dX12_keepsMany_26 : decode cX12_keepsMany 26 = .ok (.aload_n 0, 1) := by decide +kernel
theorem dX12_keepsMany_27 : decode cX12_keepsMany 27 = .ok (.getfield 162, 3) := by decide +kernel
theorem dX12_keepsMany_30 : decode cX12_keepsMany 30 = .ok (.invokevirtual 510, 3) := by decide +kernel
theorem dX12_keepsMany_33 : decode cX12_keepsMany 33 = .ok (.putfield 162, 3) := by decide +kernel
theorem dX12_keepsMany_36 : decode cX12_keepsMany 36 = .ok (.aload_n 0, 1) := by decide +kernel
theorem dX12_keepsMany_37 : decode cX12_keepsMany 37 = .ok (.aload_n 0, 1) := by decide +kernel
theorem dX12_keepsMany_38 : decode cX12_keepsMany 38 = .ok (.aload_n 0, 1) := by decide +kernel
theorem dX12_keepsMany_39 : decode cX12_keepsMany 39 = .ok (.getfield 323, 3) := by decide +kernel
theorem dX12_keepsMany_42 : decode cX12_keepsMany 42 = .ok (.invokevirtual 510, 3) := by decide +kernel
theorem dX12_keepsMany_45 : decode cX12_keepsMany 45 = .ok (.putfield 323, 3) := by decide +kernel
theorem dX12_keepsMany_48 : decode cX12_keepsMany 48 = .ok (.aload_n 0, 1) := by decide +kernel
theorem dX12_keepsMany_49 : decode cX12_keepsMany 49 = .ok (.aload_n 0, 1) := by decide +kernel
theorem dX12_keepsMany_50 : decode cX12_keepsMany 50 = .ok (.aload_n 0, 1) := by decide +kernel
theorem dX12_keepsMany_51 : decode cX12_keepsMany 51 = .ok (.getfield 326, 3) := by decide +kernel
theorem dX12_keepsMany_54 : decode cX12_keepsMany 54 = .ok (.invokevirtual 510, 3) := by decide +kernel
theorem dX12_keepsMany_57 : decode cX12_keepsMany 57 = .ok (.putfield 326, 3) := by decide +kernel
theorem dX12_keepsMany_60 : decode cX12_keepsMany 60 = .ok (.aload_n 0, 1) := by decide +kernel
theorem dX12_keepsMany_61 : decode cX12_keepsMany 61 = .ok (.aload_n 0, 1) := by decide +kernel
theorem dX12_keepsMany_62 : decode cX12_keepsMany 62 = .ok (.aload_n 0, 1) := by decide +kernel
theorem dX12_keepsMany_63 : decode cX12_keepsMany 63 = .ok (.getfield 320, 3) := by decide +kernel
theorem dX12_keepsMany_66 : decode cX12_keepsMany 66 = .ok (.invokevirtual 510, 3) := by decide +kernel
theorem dX12_keepsMany_69 : decode cX12_keepsMany 69 = .ok (.putfield 320, 3) := by decide +kernel
theorem dX12_keepsMany_72 : decode cX12_keepsMany 72 = .ok (.aload_n 0, 1) := by decide +kernel
theorem dX12_keepsMany_73 : decode cX12_keepsMany 73 = .ok (.aload_n 0, 1) := by decide +kernel
theorem dX12_keepsMany_74 : decode cX12_keepsMany 74 = .ok (.aload_n 0, 1) := by decide +kernel
theorem dX12_keepsMany_75 : decode cX12_keepsMany 75 = .ok (.getfield 427, 3) := by decide +kernel
theorem dX12_keepsMany_78 : decode cX12_keepsMany 78 = .ok (.invokevirtual 510, 3) := by decide +kernel
theorem dX12_keepsMany_81 : decode cX12_keepsMany 81 = .ok (.putfield 427, 3) := by decide +kernel
theorem dX12_keepsMany_84 : decode cX12_keepsMany 84 = .ok (.aload_n 0, 1) := by decide +kernel
theorem dX12_keepsMany_85 : decode cX12_keepsMany 85 = .ok (.aload_n 0, 1) := by decide +kernel
theorem dX12_keepsMany_86 : decode cX12_keepsMany 86 = .ok (.aload_n 0, 1) := by decide +kernel
theorem dX12_keepsMany_87 : decode cX12_keepsMany 87 = .ok (.getfield 433, 3) := by decide +kernel
theorem dX12_keepsMany_90 : decode cX12_keepsMany 90 = .ok (.invokevirtual 510, 3) := by decide +kernel
theorem dX12_keepsMany_93 : decode cX12_keepsMany 93 = .ok (.putfield 433, 3) := by decide +kernel
theorem dX12_keepsMany_96 : decode cX12_keepsMany 96 = .ok (.aload_n 0, 1) := by decide +kernel
theorem dX12_keepsMany_97 : decode cX12_keepsMany 97 = .ok (.aload_n 0, 1) := by decide +kernel
theorem dX12_keepsMany_98 : decode cX12_keepsMany 98 = .ok (.aload_n 0, 1) := by decide +kernel
theorem dX12_keepsMany_99 : decode cX12_keepsMany 99 = .ok (.getfield 439, 3) := by decide +kernel
theorem dX12_keepsMany_102 : decode cX12_keepsMany 102 = .ok (.invokevirtual 510, 3) := by decide +kernel
theorem dX12_keepsMany_105 : decode cX12_keepsMany 105 = .ok (.putfield 439, 3) := by decide +kernel
theorem dX12_keepsMany_108 : decode cX12_keepsMany 108 = .ok (.aload_n 0, 1) := by decide +kernel
theorem dX12_keepsMany_109 : decode cX12_keepsMany 109 = .ok (.aload_n 0, 1) := by decide +kernel
theorem dX12_keepsMany_110 : decode cX12_keepsMany 110 = .ok (.aload_n 0, 1) := by decide +kernel
theorem dX12_keepsMany_111 : decode cX12_keepsMany 111 = .ok (.getfield 451, 3) := by decide +kernel
theorem dX12_keepsMany_114 : decode cX12_keepsMany 114 = .ok (.invokevirtual 510, 3) := by decide +kernel
theorem dX12_keepsMany_117 : decode cX12_keepsMany 117 = .ok (.putfield 451, 3) := by decide +kernel
theorem dX12_keepsMany_120 : decode cX12_keepsMany 120 = .ok (.aload_n 0, 1) := by decide +kernel
theorem dX12_keepsMany_121 : decode cX12_keepsMany 121 = .ok (.aload_n 0, 1) := by decide +kernel
theorem dX12_keepsMany_122 : decode cX12_keepsMany 122 = .ok (.aload_n 0, 1) := by decide +kernel
theorem dX12_keepsMany_123 : decode cX12_keepsMany 123 = .ok (.getfield 461, 3) := by decide +kernel
theorem dX12_keepsMany_126 : decode cX12_keepsMany 126 = .ok (.invokevirtual 510, 3) := by decide +kernel
theorem dX12_keepsMany_129 : decode cX12_keepsMany 129 = .ok (.putfield 461, 3) := by decide +kernel
theorem dX12_keepsMany_132 : decode cX12_keepsMany 132 = .ok (.aload_n 0, 1) := by decide +kernel
theorem dX12_keepsMany_133 : decode cX12_keepsMany 133 = .ok (.aload_n 0, 1) := by decide +kernel
theorem dX12_keepsMany_134 : decode cX12_keepsMany 134 = .ok (.aload_n 0, 1) := by decide +kernel
theorem dX12_keepsMany_135 : decode cX12_keepsMany 135 = .ok (.getfield 479, 3) := by decide +kernel
theorem dX12_keepsMany_138 : decode cX12_keepsMany 138 = .ok (.invokevirtual 510, 3) := by decide +kernel
theorem dX12_keepsMany_141 : decode cX12_keepsMany 141 = .ok (.putfield 479, 3) := by decide +kernel
theorem dX12_keepsMany_144 : decode cX12_keepsMany 144 = .ok (.aload_n 0, 1) := by decide +kernel
theorem dX12_keepsMany_145 : decode cX12_keepsMany 145 = .ok (.aload_n 0, 1) := by decide +kernel
theorem dX12_keepsMany_146 : decode cX12_keepsMany 146 = .ok (.aload_n 0, 1) := by decide +kernel
theorem dX12_keepsMany_147 : decode cX12_keepsMany 147 = .ok (.getfield 485, 3) := by decide +kernel
theorem dX12_keepsMany_150 : decode cX12_keepsMany 150 = .ok (.invokevirtual 510, 3) := by decide +kernel
theorem dX12_keepsMany_153 : decode cX12_keepsMany 153 = .ok (.putfield 485, 3) := by decide +kernel
theorem dX12_keepsMany_156 : decode cX12_keepsMany 156 = .ok (.return_, 1) := by decide +kernel
theorem dX12_keepsTold_0 : decode cX12_keepsTold 0 = .ok (.iconst 0, 1) := by decide +kernel
theorem dX12_keepsTold_1 : decode cX12_keepsTold 1 = .ok (.istore_n 1, 1) := by decide +kernel
theorem dX12_keepsTold_2 : decode cX12_keepsTold 2 = .ok (.iload_n 1, 1) := by decide +kernel
theorem dX12_keepsTold_3 : decode cX12_keepsTold 3 = .ok (.bipush 12, 2) := by decide +kernel
theorem dX12_keepsTold_5 : decode cX12_keepsTold 5 = .ok (.if_icmp .ge 121, 3) := by decide +kernel
theorem dX12_keepsTold_8 : decode cX12_keepsTold 8 = .ok (.aload_n 0, 1) := by decide +kernel
theorem dX12_keepsTold_9 : decode cX12_keepsTold 9 = .ok (.getfield 19, 3) := by decide +kernel
theorem dX12_keepsTold_12 : decode cX12_keepsTold 12 = .ok (.iload_n 1, 1) := by decide +kernel
theorem dX12_keepsTold_13 : decode cX12_keepsTold 13 = .ok (.aload_n 0, 1) := by decide +kernel
theorem dX12_keepsTold_14 : decode cX12_keepsTold 14 = .ok (.aload_n 0, 1) := by decide +kernel
theorem dX12_keepsTold_15 : decode cX12_keepsTold 15 = .ok (.getfield 19, 3) := by decide +kernel
theorem dX12_keepsTold_18 : decode cX12_keepsTold 18 = .ok (.iload_n 1, 1) := by decide +kernel
theorem dX12_keepsTold_19 : decode cX12_keepsTold 19 = .ok (.iaload, 1) := by decide +kernel
theorem dX12_keepsTold_20 : decode cX12_keepsTold 20 = .ok (.invokevirtual 510, 3) := by decide +kernel
theorem dX12_keepsTold_23 : decode cX12_keepsTold 23 = .ok (.iastore, 1) := by decide +kernel
theorem dX12_keepsTold_24 : decode cX12_keepsTold 24 = .ok (.aload_n 0, 1) := by decide +kernel
theorem dX12_keepsTold_25 : decode cX12_keepsTold 25 = .ok (.getfield 22, 3) := by decide +kernel
theorem dX12_keepsTold_28 : decode cX12_keepsTold 28 = .ok (.iload_n 1, 1) := by decide +kernel
theorem dX12_keepsTold_29 : decode cX12_keepsTold 29 = .ok (.aload_n 0, 1) := by decide +kernel
theorem dX12_keepsTold_30 : decode cX12_keepsTold 30 = .ok (.aload_n 0, 1) := by decide +kernel
theorem dX12_keepsTold_31 : decode cX12_keepsTold 31 = .ok (.getfield 22, 3) := by decide +kernel
theorem dX12_keepsTold_34 : decode cX12_keepsTold 34 = .ok (.iload_n 1, 1) := by decide +kernel
theorem dX12_keepsTold_35 : decode cX12_keepsTold 35 = .ok (.iaload, 1) := by decide +kernel
theorem dX12_keepsTold_36 : decode cX12_keepsTold 36 = .ok (.invokevirtual 510, 3) := by decide +kernel
theorem dX12_keepsTold_39 : decode cX12_keepsTold 39 = .ok (.iastore, 1) := by decide +kernel
theorem dX12_keepsTold_40 : decode cX12_keepsTold 40 = .ok (.aload_n 0, 1) := by decide +kernel
theorem dX12_keepsTold_41 : decode cX12_keepsTold 41 = .ok (.getfield 74, 3) := by decide +kernel
theorem dX12_keepsTold_44 : decode cX12_keepsTold 44 = .ok (.iload_n 1, 1) := by decide +kernel
theorem dX12_keepsTold_45 : decode cX12_keepsTold 45 = .ok (.aload_n 0, 1) := by decide +kernel
theorem dX12_keepsTold_46 : decode cX12_keepsTold 46 = .ok (.aload_n 0, 1) := by decide +kernel
theorem dX12_keepsTold_47 : decode cX12_keepsTold 47 = .ok (.getfield 74, 3) := by decide +kernel
theorem dX12_keepsTold_50 : decode cX12_keepsTold 50 = .ok (.iload_n 1, 1) := by decide +kernel
theorem dX12_keepsTold_51 : decode cX12_keepsTold 51 = .ok (.iaload, 1) := by decide +kernel
theorem dX12_keepsTold_52 : decode cX12_keepsTold 52 = .ok (.invokevirtual 510, 3) := by decide +kernel
theorem dX12_keepsTold_55 : decode cX12_keepsTold 55 = .ok (.iastore, 1) := by decide +kernel
theorem dX12_keepsTold_56 : decode cX12_keepsTold 56 = .ok (.aload_n 0, 1) := by decide +kernel
theorem dX12_keepsTold_57 : decode cX12_keepsTold 57 = .ok (.getfield 83, 3) := by decide +kernel
theorem dX12_keepsTold_60 : decode cX12_keepsTold 60 = .ok (.iload_n 1, 1) := by decide +kernel
theorem dX12_keepsTold_61 : decode cX12_keepsTold 61 = .ok (.aload_n 0, 1) := by decide +kernel
theorem dX12_keepsTold_62 : decode cX12_keepsTold 62 = .ok (.aload_n 0, 1) := by decide +kernel
theorem dX12_keepsTold_63 : decode cX12_keepsTold 63 = .ok (.getfield 83, 3) := by decide +kernel
theorem dX12_keepsTold_66 : decode cX12_keepsTold 66 = .ok (.iload_n 1, 1) := by decide +kernel
theorem dX12_keepsTold_67 : decode cX12_keepsTold 67 = .ok (.iaload, 1) := by decide +kernel
theorem dX12_keepsTold_68 : decode cX12_keepsTold 68 = .ok (.invokevirtual 510, 3) := by decide +kernel
theorem dX12_keepsTold_71 : decode cX12_keepsTold 71 = .ok (.iastore, 1) := by decide +kernel
theorem dX12_keepsTold_72 : decode cX12_keepsTold 72 = .ok (.aload_n 0, 1) := by decide +kernel
theorem dX12_keepsTold_73 : decode cX12_keepsTold 73 = .ok (.getfield 86, 3) := by decide +kernel
theorem dX12_keepsTold_76 : decode cX12_keepsTold 76 = .ok (.iload_n 1, 1) := by decide +kernel
theorem dX12_keepsTold_77 : decode cX12_keepsTold 77 = .ok (.aload_n 0, 1) := by decide +kernel
theorem dX12_keepsTold_78 : decode cX12_keepsTold 78 = .ok (.aload_n 0, 1) := by decide +kernel
theorem dX12_keepsTold_79 : decode cX12_keepsTold 79 = .ok (.getfield 86, 3) := by decide +kernel
theorem dX12_keepsTold_82 : decode cX12_keepsTold 82 = .ok (.iload_n 1, 1) := by decide +kernel
theorem dX12_keepsTold_83 : decode cX12_keepsTold 83 = .ok (.iaload, 1) := by decide +kernel
theorem dX12_keepsTold_84 : decode cX12_keepsTold 84 = .ok (.invokevirtual 510, 3) := by decide +kernel
theorem dX12_keepsTold_87 : decode cX12_keepsTold 87 = .ok (.iastore, 1) := by decide +kernel
theorem dX12_keepsTold_88 : decode cX12_keepsTold 88 = .ok (.aload_n 0, 1) := by decide +kernel
theorem dX12_keepsTold_89 : decode cX12_keepsTold 89 = .ok (.getfield 116, 3) := by decide +kernel
theorem dX12_keepsTold_92 : decode cX12_keepsTold 92 = .ok (.iload_n 1, 1) := by decide +kernel
theorem dX12_keepsTold_93 : decode cX12_keepsTold 93 = .ok (.aload_n 0, 1) := by decide +kernel
theorem dX12_keepsTold_94 : decode cX12_keepsTold 94 = .ok (.aload_n 0, 1) := by decide +kernel
theorem dX12_keepsTold_95 : decode cX12_keepsTold 95 = .ok (.getfield 116, 3) := by decide +kernel
theorem dX12_keepsTold_98 : decode cX12_keepsTold 98 = .ok (.iload_n 1, 1) := by decide +kernel
theorem dX12_keepsTold_99 : decode cX12_keepsTold 99 = .ok (.iaload, 1) := by decide +kernel
theorem dX12_keepsTold_100 : decode cX12_keepsTold 100 = .ok (.invokevirtual 510, 3) := by decide +kernel
theorem dX12_keepsTold_103 : decode cX12_keepsTold 103 = .ok (.iastore, 1) := by decide +kernel
theorem dX12_keepsTold_104 : decode cX12_keepsTold 104 = .ok (.aload_n 0, 1) := by decide +kernel
theorem dX12_keepsTold_105 : decode cX12_keepsTold 105 = .ok (.getfield 125, 3) := by decide +kernel
theorem dX12_keepsTold_108 : decode cX12_keepsTold 108 = .ok (.iload_n 1, 1) := by decide +kernel
theorem dX12_keepsTold_109 : decode cX12_keepsTold 109 = .ok (.aload_n 0, 1) := by decide +kernel
theorem dX12_keepsTold_110 : decode cX12_keepsTold 110 = .ok (.aload_n 0, 1) := by decide +kernel
theorem dX12_keepsTold_111 : decode cX12_keepsTold 111 = .ok (.getfield 125, 3) := by decide +kernel
theorem dX12_keepsTold_114 : decode cX12_keepsTold 114 = .ok (.iload_n 1, 1) := by decide +kernel
theorem dX12_keepsTold_115 : decode cX12_keepsTold 115 = .ok (.iaload, 1) := by decide +kernel
theorem dX12_keepsTold_116 : decode cX12_keepsTold 116 = .ok (.invokevirtual 510, 3) := by decide +kernel
theorem dX12_keepsTold_119 : decode cX12_keepsTold 119 = .ok (.iastore, 1) := by decide +kernel
theorem dX12_keepsTold_120 : decode cX12_keepsTold 120 = .ok (.iinc 1 1, 3) := by decide +kernel
theorem dX12_keepsTold_123 : decode cX12_keepsTold 123 = .ok (.goto (-121), 3) := by decide +kernel
theorem dX12_keepsTold_126 : decode cX12_keepsTold 126 = .ok (.iconst 0, 1) := by decide +kernel
theorem dX12_keepsTold_127 : decode cX12_keepsTold 127 = .ok (.istore_n 1, 1) := by decide +kernel
theorem dX12_keepsTold_128 : decode cX12_keepsTold 128 = .ok (.iload_n 1, 1) := by decide +kernel
theorem dX12_keepsTold_129 : decode cX12_keepsTold 129 = .ok (.bipush 10, 2) := by decide +kernel
theorem dX12_keepsTold_131 : decode cX12_keepsTold 131 = .ok (.if_icmp .ge 41, 3) := by decide +kernel
theorem dX12_keepsTold_134 : decode cX12_keepsTold 134 = .ok (.aload_n 0, 1) := by decide +kernel
theorem dX12_keepsTold_135 : decode cX12_keepsTold 135 = .ok (.getfield 25, 3) := by decide +kernel
theorem dX12_keepsTold_138 : decode cX12_keepsTold 138 = .ok (.iload_n 1, 1) := by decide +kernel
theorem dX12_keepsTold_139 : decode cX12_keepsTold 139 = .ok (.aload_n 0, 1) := by decide +kernel
theorem dX12_keepsTold_140 : decode cX12_keepsTold 140 = .ok (.aload_n 0, 1) := by decide +kernel
theorem dX12_keepsTold_141 : decode cX12_keepsTold 141 = .ok (.getfield 25, 3) := by decide +kernel
theorem dX12_keepsTold_144 : decode cX12_keepsTold 144 = .ok (.iload_n 1, 1) := by decide +kernel
theorem dX12_keepsTold_145 : decode cX12_keepsTold 145 = .ok (.iaload, 1) := by decide +kernel
theorem dX12_keepsTold_146 : decode cX12_keepsTold 146 = .ok (.invokevirtual 510, 3) := by decide +kernel
theorem dX12_keepsTold_149 : decode cX12_keepsTold 149 = .ok (.iastore, 1) := by decide +kernel
theorem dX12_keepsTold_150 : decode cX12_keepsTold 150 = .ok (.aload_n 0, 1) := by decide +kernel
theorem dX12_keepsTold_151 : decode cX12_keepsTold 151 = .ok (.getfield 28, 3) := by decide +kernel
theorem dX12_keepsTold_154 : decode cX12_keepsTold 154 = .ok (.iload_n 1, 1) := by decide +kernel
theorem dX12_keepsTold_155 : decode cX12_keepsTold 155 = .ok (.aload_n 0, 1) := by decide +kernel
theorem dX12_keepsTold_156 : decode cX12_keepsTold 156 = .ok (.aload_n 0, 1) := by decide +kernel
theorem dX12_keepsTold_157 : decode cX12_keepsTold 157 = .ok (.getfield 28, 3) := by decide +kernel
theorem dX12_keepsTold_160 : decode cX12_keepsTold 160 = .ok (.iload_n 1, 1) := by decide +kernel
theorem dX12_keepsTold_161 : decode cX12_keepsTold 161 = .ok (.iaload, 1) := by decide +kernel
theorem dX12_keepsTold_162 : decode cX12_keepsTold 162 = .ok (.invokevirtual 510, 3) := by decide +kernel
theorem dX12_keepsTold_165 : decode cX12_keepsTold 165 = .ok (.iastore, 1) := by decide +kernel
theorem dX12_keepsTold_166 : decode cX12_keepsTold 166 = .ok (.iinc 1 1, 3) := by decide +kernel
theorem dX12_keepsTold_169 : decode cX12_keepsTold 169 = .ok (.goto (-41), 3) := by decide +kernel
theorem dX12_keepsTold_172 : decode cX12_keepsTold 172 = .ok (.iconst 0, 1) := by decide +kernel
theorem dX12_keepsTold_173 : decode cX12_keepsTold 173 = .ok (.istore_n 1, 1) := by decide +kernel
theorem dX12_keepsTold_174 : decode cX12_keepsTold 174 = .ok (.iload_n 1, 1) := by decide +kernel
theorem dX12_keepsTold_175 : decode cX12_keepsTold 175 = .ok (.bipush 80, 2) := by decide +kernel
theorem dX12_keepsTold_177 : decode cX12_keepsTold 177 = .ok (.if_icmp .ge 25, 3) := by decide +kernel
theorem dX12_keepsTold_180 : decode cX12_keepsTold 180 = .ok (.aload_n 0, 1) := by decide +kernel
theorem dX12_keepsTold_181 : decode cX12_keepsTold 181 = .ok (.getfield 68, 3) := by decide +kernel
theorem dX12_keepsTold_184 : decode cX12_keepsTold 184 = .ok (.iload_n 1, 1) := by decide +kernel
theorem dX12_keepsTold_185 : decode cX12_keepsTold 185 = .ok (.aload_n 0, 1) := by decide +kernel
theorem dX12_keepsTold_186 : decode cX12_keepsTold 186 = .ok (.aload_n 0, 1) := by decide +kernel
theorem dX12_keepsTold_187 : decode cX12_keepsTold 187 = .ok (.getfield 68, 3) := by decide +kernel
theorem dX12_keepsTold_190 : decode cX12_keepsTold 190 = .ok (.iload_n 1, 1) := by decide +kernel
theorem dX12_keepsTold_191 : decode cX12_keepsTold 191 = .ok (.iaload, 1) := by decide +kernel
theorem dX12_keepsTold_192 : decode cX12_keepsTold 192 = .ok (.invokevirtual 510, 3) := by decide +kernel
theorem dX12_keepsTold_195 : decode cX12_keepsTold 195 = .ok (.iastore, 1) := by decide +kernel
theorem dX12_keepsTold_196 : decode cX12_keepsTold 196 = .ok (.iinc 1 1, 3) := by decide +kernel
theorem dX12_keepsTold_199 : decode cX12_keepsTold 199 = .ok (.goto (-25), 3) := by decide +kernel
theorem dX12_keepsTold_202 : decode cX12_keepsTold 202 = .ok (.iconst 0, 1) := by decide +kernel
theorem dX12_keepsTold_203 : decode cX12_keepsTold 203 = .ok (.istore_n 1, 1) := by decide +kernel
theorem dX12_keepsTold_204 : decode cX12_keepsTold 204 = .ok (.iload_n 1, 1) := by decide +kernel
theorem dX12_keepsTold_205 : decode cX12_keepsTold 205 = .ok (.bipush 48, 2) := by decide +kernel
theorem dX12_keepsTold_207 : decode cX12_keepsTold 207 = .ok (.if_icmp .ge 25, 3) := by decide +kernel
theorem dX12_keepsTold_210 : decode cX12_keepsTold 210 = .ok (.aload_n 0, 1) := by decide +kernel
theorem dX12_keepsTold_211 : decode cX12_keepsTold 211 = .ok (.getfield 71, 3) := by decide +kernel
theorem dX12_keepsTold_214 : decode cX12_keepsTold 214 = .ok (.iload_n 1, 1) := by decide +kernel
theorem dX12_keepsTold_215 : decode cX12_keepsTold 215 = .ok (.aload_n 0, 1) := by decide +kernel
theorem dX12_keepsTold_216 : decode cX12_keepsTold 216 = .ok (.aload_n 0, 1) := by decide +kernel
theorem dX12_keepsTold_217 : decode cX12_keepsTold 217 = .ok (.getfield 71, 3) := by decide +kernel
theorem dX12_keepsTold_220 : decode cX12_keepsTold 220 = .ok (.iload_n 1, 1) := by decide +kernel
theorem dX12_keepsTold_221 : decode cX12_keepsTold 221 = .ok (.iaload, 1) := by decide +kernel
theorem dX12_keepsTold_222 : decode cX12_keepsTold 222 = .ok (.invokevirtual 510, 3) := by decide +kernel
theorem dX12_keepsTold_225 : decode cX12_keepsTold 225 = .ok (.iastore, 1) := by decide +kernel
theorem dX12_keepsTold_226 : decode cX12_keepsTold 226 = .ok (.iinc 1 1, 3) := by decide +kernel
theorem dX12_keepsTold_229 : decode cX12_keepsTold 229 = .ok (.goto (-25), 3) := by decide +kernel
theorem dX12_keepsTold_232 : decode cX12_keepsTold 232 = .ok (.iconst 0, 1) := by decide +kernel
theorem dX12_keepsTold_233 : decode cX12_keepsTold 233 = .ok (.istore_n 1, 1) := by decide +kernel
theorem dX12_keepsTold_234 : decode cX12_keepsTold 234 = .ok (.iload_n 1, 1) := by decide +kernel
theorem dX12_keepsTold_235 : decode cX12_keepsTold 235 = .ok (.bipush 9, 2) := by decide +kernel
theorem dX12_keepsTold_237 : decode cX12_keepsTold 237 = .ok (.if_icmp .ge 25, 3) := by decide +kernel
theorem dX12_keepsTold_240 : decode cX12_keepsTold 240 = .ok (.aload_n 0, 1) := by decide +kernel
theorem dX12_keepsTold_241 : decode cX12_keepsTold 241 = .ok (.getfield 89, 3) := by decide +kernel
theorem dX12_keepsTold_244 : decode cX12_keepsTold 244 = .ok (.iload_n 1, 1) := by decide +kernel
theorem dX12_keepsTold_245 : decode cX12_keepsTold 245 = .ok (.aload_n 0, 1) := by decide +kernel
theorem dX12_keepsTold_246 : decode cX12_keepsTold 246 = .ok (.aload_n 0, 1) := by decide +kernel
theorem dX12_keepsTold_247 : decode cX12_keepsTold 247 = .ok (.getfield 89, 3) := by decide +kernel
theorem dX12_keepsTold_250 : decode cX12_keepsTold 250 = .ok (.iload_n 1, 1) := by decide +kernel
theorem dX12_keepsTold_251 : decode cX12_keepsTold 251 = .ok (.iaload, 1) := by decide +kernel
theorem dX12_keepsTold_252 : decode cX12_keepsTold 252 = .ok (.invokevirtual 510, 3) := by decide +kernel
theorem dX12_keepsTold_255 : decode cX12_keepsTold 255 = .ok (.iastore, 1) := by decide +kernel
theorem dX12_keepsTold_256 : decode cX12_keepsTold 256 = .ok (.iinc 1 1, 3) := by decide +kernel
theorem dX12_keepsTold_259 : decode cX12_keepsTold 259 = .ok (.goto (-25), 3) := by decide +kernel
theorem dX12_keepsTold_262 : decode cX12_keepsTold 262 = .ok (.iconst 0, 1) := by decide +kernel
theorem dX12_keepsTold_263 : decode cX12_keepsTold 263 = .ok (.istore_n 1, 1) := by decide +kernel
theorem dX12_keepsTold_264 : decode cX12_keepsTold 264 = .ok (.iload_n 1, 1) := by decide +kernel
theorem dX12_keepsTold_265 : decode cX12_keepsTold 265 = .ok (.bipush 8, 2) := by decide +kernel
theorem dX12_keepsTold_267 : decode cX12_keepsTold 267 = .ok (.if_icmp .ge 57, 3) := by decide +kernel
theorem dX12_keepsTold_270 : decode cX12_keepsTold 270 = .ok (.aload_n 0, 1) := by decide +kernel
theorem dX12_keepsTold_271 : decode cX12_keepsTold 271 = .ok (.getfield 92, 3) := by decide +kernel
theorem dX12_keepsTold_274 : decode cX12_keepsTold 274 = .ok (.iload_n 1, 1) := by decide +kernel
theorem dX12_keepsTold_275 : decode cX12_keepsTold 275 = .ok (.aload_n 0, 1) := by decide +kernel
theorem dX12_keepsTold_276 : decode cX12_keepsTold 276 = .ok (.aload_n 0, 1) := by decide +kernel
theorem dX12_keepsTold_277 : decode cX12_keepsTold 277 = .ok (.getfield 92, 3) := by decide +kernel
theorem dX12_keepsTold_280 : decode cX12_keepsTold 280 = .ok (.iload_n 1, 1) := by decide +kernel
theorem dX12_keepsTold_281 : decode cX12_keepsTold 281 = .ok (.iaload, 1) := by decide +kernel
theorem dX12_keepsTold_282 : decode cX12_keepsTold 282 = .ok (.invokevirtual 510, 3) := by decide +kernel
theorem dX12_keepsTold_285 : decode cX12_keepsTold 285 = .ok (.iastore, 1) := by decide +kernel
theorem dX12_keepsTold_286 : decode cX12_keepsTold 286 = .ok (.aload_n 0, 1) := by decide +kernel
theorem dX12_keepsTold_287 : decode cX12_keepsTold 287 = .ok (.getfield 95, 3) := by decide +kernel
theorem dX12_keepsTold_290 : decode cX12_keepsTold 290 = .ok (.iload_n 1, 1) := by decide +kernel
theorem dX12_keepsTold_291 : decode cX12_keepsTold 291 = .ok (.aload_n 0, 1) := by decide +kernel
theorem dX12_keepsTold_292 : decode cX12_keepsTold 292 = .ok (.aload_n 0, 1) := by decide +kernel
theorem dX12_keepsTold_293 : decode cX12_keepsTold 293 = .ok (.getfield 95, 3) := by decide +kernel
theorem dX12_keepsTold_296 : decode cX12_keepsTold 296 = .ok (.iload_n 1, 1) := by decide +kernel
theorem dX12_keepsTold_297 : decode cX12_keepsTold 297 = .ok (.iaload, 1) := by decide +kernel
theorem dX12_keepsTold_298 : decode cX12_keepsTold 298 = .ok (.invokevirtual 510, 3) := by decide +kernel
theorem dX12_keepsTold_301 : decode cX12_keepsTold 301 = .ok (.iastore, 1) := by decide +kernel
theorem dX12_keepsTold_302 : decode cX12_keepsTold 302 = .ok (.aload_n 0, 1) := by decide +kernel
theorem dX12_keepsTold_303 : decode cX12_keepsTold 303 = .ok (.getfield 110, 3) := by decide +kernel
theorem dX12_keepsTold_306 : decode cX12_keepsTold 306 = .ok (.iload_n 1, 1) := by decide +kernel
theorem dX12_keepsTold_307 : decode cX12_keepsTold 307 = .ok (.aload_n 0, 1) := by decide +kernel
theorem dX12_keepsTold_308 : decode cX12_keepsTold 308 = .ok (.aload_n 0, 1) := by decide +kernel
theorem dX12_keepsTold_309 : decode cX12_keepsTold 309 = .ok (.getfield 110, 3) := by decide +kernel
theorem dX12_keepsTold_312 : decode cX12_keepsTold 312 = .ok (.iload_n 1, 1) := by decide +kernel
theorem dX12_keepsTold_313 : decode cX12_keepsTold 313 = .ok (.iaload, 1) := by decide +kernel
theorem dX12_keepsTold_314 : decode cX12_keepsTold 314 = .ok (.invokevirtual 510, 3) := by decide +kernel
theorem dX12_keepsTold_317 : decode cX12_keepsTold 317 = .ok (.iastore, 1) := by decide +kernel
theorem dX12_keepsTold_318 : decode cX12_keepsTold 318 = .ok (.iinc 1 1, 3) := by decide +kernel
theorem dX12_keepsTold_321 : decode cX12_keepsTold 321 = .ok (.goto (-57), 3) := by decide +kernel
theorem dX12_keepsTold_324 : decode cX12_keepsTold 324 = .ok (.iconst 0, 1) := by decide +kernel
theorem dX12_keepsTold_325 : decode cX12_keepsTold 325 = .ok (.istore_n 1, 1) := by decide +kernel
theorem dX12_keepsTold_326 : decode cX12_keepsTold 326 = .ok (.iload_n 1, 1) := by decide +kernel
theorem dX12_keepsTold_327 : decode cX12_keepsTold 327 = .ok (.bipush 6, 2) := by decide +kernel
theorem dX12_keepsTold_329 : decode cX12_keepsTold 329 = .ok (.if_icmp .ge 41, 3) := by decide +kernel
theorem dX12_keepsTold_332 : decode cX12_keepsTold 332 = .ok (.aload_n 0, 1) := by decide +kernel
theorem dX12_keepsTold_333 : decode cX12_keepsTold 333 = .ok (.getfield 98, 3) := by decide +kernel
theorem dX12_keepsTold_336 : decode cX12_keepsTold 336 = .ok (.iload_n 1, 1) := by decide +kernel
theorem dX12_keepsTold_337 : decode cX12_keepsTold 337 = .ok (.aload_n 0, 1) := by decide +kernel
theorem dX12_keepsTold_338 : decode cX12_keepsTold 338 = .ok (.aload_n 0, 1) := by decide +kernel
theorem dX12_keepsTold_339 : decode cX12_keepsTold 339 = .ok (.getfield 98, 3) := by decide +kernel
theorem dX12_keepsTold_342 : decode cX12_keepsTold 342 = .ok (.iload_n 1, 1) := by decide +kernel
theorem dX12_keepsTold_343 : decode cX12_keepsTold 343 = .ok (.iaload, 1) := by decide +kernel
theorem dX12_keepsTold_344 : decode cX12_keepsTold 344 = .ok (.invokevirtual 510, 3) := by decide +kernel
theorem dX12_keepsTold_347 : decode cX12_keepsTold 347 = .ok (.iastore, 1) := by decide +kernel
theorem dX12_keepsTold_348 : decode cX12_keepsTold 348 = .ok (.aload_n 0, 1) := by decide +kernel
theorem dX12_keepsTold_349 : decode cX12_keepsTold 349 = .ok (.getfield 101, 3) := by decide +kernel
theorem dX12_keepsTold_352 : decode cX12_keepsTold 352 = .ok (.iload_n 1, 1) := by decide +kernel
theorem dX12_keepsTold_353 : decode cX12_keepsTold 353 = .ok (.aload_n 0, 1) := by decide +kernel
theorem dX12_keepsTold_354 : decode cX12_keepsTold 354 = .ok (.aload_n 0, 1) := by decide +kernel
theorem dX12_keepsTold_355 : decode cX12_keepsTold 355 = .ok (.getfield 101, 3) := by decide +kernel
theorem dX12_keepsTold_358 : decode cX12_keepsTold 358 = .ok (.iload_n 1, 1) := by decide +kernel
theorem dX12_keepsTold_359 : decode cX12_keepsTold 359 = .ok (.iaload, 1) := by decide +kernel
theorem dX12_keepsTold_360 : decode cX12_keepsTold 360 = .ok (.invokevirtual 510, 3) := by decide +kernel
theorem dX12_keepsTold_363 : decode cX12_keepsTold 363 = .ok (.iastore, 1) := by decide +kernel
theorem dX12_keepsTold_364 : decode cX12_keepsTold 364 = .ok (.iinc 1 1, 3) := by decide +kernel
theorem dX12_keepsTold_367 : decode cX12_keepsTold 367 = .ok (.goto (-41), 3) := by decide +kernel
theorem dX12_keepsTold_370 : decode cX12_keepsTold 370 = .ok (.iconst 0, 1) := by decide +kernel
theorem dX12_keepsTold_371 : decode cX12_keepsTold 371 = .ok (.istore_n 1, 1) := by decide +kernel
theorem dX12_keepsTold_372 : decode cX12_keepsTold 372 = .ok (.iload_n 1, 1) := by decide +kernel
theorem dX12_keepsTold_373 : decode cX12_keepsTold 373 = .ok (.bipush 7, 2) := by decide +kernel
theorem dX12_keepsTold_375 : decode cX12_keepsTold 375 = .ok (.if_icmp .ge 41, 3) := by decide +kernel
theorem dX12_keepsTold_378 : decode cX12_keepsTold 378 = .ok (.aload_n 0, 1) := by decide +kernel
theorem dX12_keepsTold_379 : decode cX12_keepsTold 379 = .ok (.getfield 104, 3) := by decide +kernel
theorem dX12_keepsTold_382 : decode cX12_keepsTold 382 = .ok (.iload_n 1, 1) := by decide +kernel
theorem dX12_keepsTold_383 : decode cX12_keepsTold 383 = .ok (.aload_n 0, 1) := by decide +kernel
theorem dX12_keepsTold_384 : decode cX12_keepsTold 384 = .ok (.aload_n 0, 1) := by decide +kernel
theorem dX12_keepsTold_385 : decode cX12_keepsTold 385 = .ok (.getfield 104, 3) := by decide +kernel
theorem dX12_keepsTold_388 : decode cX12_keepsTold 388 = .ok (.iload_n 1, 1) := by decide +kernel
theorem dX12_keepsTold_389 : decode cX12_keepsTold 389 = .ok (.iaload, 1) := by decide +kernel
theorem dX12_keepsTold_390 : decode cX12_keepsTold 390 = .ok (.invokevirtual 510, 3) := by decide +kernel
theorem dX12_keepsTold_393 : decode cX12_keepsTold 393 = .ok (.iastore, 1) := by decide +kernel
theorem dX12_keepsTold_394 : decode cX12_keepsTold 394 = .ok (.aload_n 0, 1) := by decide +kernel
theorem dX12_keepsTold_395 : decode cX12_keepsTold 395 = .ok (.getfield 107, 3) := by decide +kernel
theorem dX12_keepsTold_398 : decode cX12_keepsTold 398 = .ok (.iload_n 1, 1) := by decide +kernel
theorem dX12_keepsTold_399 : decode cX12_keepsTold 399 = .ok (.aload_n 0, 1) := by decide +kernel
theorem dX12_keepsTold_400 : decode cX12_keepsTold 400 = .ok (.aload_n 0, 1) := by decide +kernel
theorem dX12_keepsTold_401 : decode cX12_keepsTold 401 = .ok (.getfield 107, 3) := by decide +kernel
theorem dX12_keepsTold_404 : decode cX12_keepsTold 404 = .ok (.iload_n 1, 1) := by decide +kernel
theorem dX12_keepsTold_405 : decode cX12_keepsTold 405 = .ok (.iaload, 1) := by decide +kernel
theorem dX12_keepsTold_406 : decode cX12_keepsTold 406 = .ok (.invokevirtual 510, 3) := by decide +kernel
theorem dX12_keepsTold_409 : decode cX12_keepsTold 409 = .ok (.iastore, 1) := by decide +kernel
theorem dX12_keepsTold_410 : decode cX12_keepsTold 410 = .ok (.iinc 1 1, 3) := by decide +kernel
theorem dX12_keepsTold_413 : decode cX12_keepsTold 413 = .ok (.goto (-41), 3) := by decide +kernel
theorem dX12_keepsTold_416 : decode cX12_keepsTold 416 = .ok (.iconst 0, 1) := by decide +kernel
theorem dX12_keepsTold_417 : decode cX12_keepsTold 417 = .ok (.istore_n 1, 1) := by decide +kernel
theorem dX12_keepsTold_418 : decode cX12_keepsTold 418 = .ok (.iload_n 1, 1) := by decide +kernel
theorem dX12_keepsTold_419 : decode cX12_keepsTold 419 = .ok (.bipush 36, 2) := by decide +kernel
theorem dX12_keepsTold_421 : decode cX12_keepsTold 421 = .ok (.if_icmp .ge 25, 3) := by decide +kernel
theorem dX12_keepsTold_424 : decode cX12_keepsTold 424 = .ok (.aload_n 0, 1) := by decide +kernel
theorem dX12_keepsTold_425 : decode cX12_keepsTold 425 = .ok (.getfield 128, 3) := by decide +kernel
theorem dX12_keepsTold_428 : decode cX12_keepsTold 428 = .ok (.iload_n 1, 1) := by decide +kernel
theorem dX12_keepsTold_429 : decode cX12_keepsTold 429 = .ok (.aload_n 0, 1) := by decide +kernel
theorem dX12_keepsTold_430 : decode cX12_keepsTold 430 = .ok (.aload_n 0, 1) := by decide +kernel
theorem dX12_keepsTold_431 : decode cX12_keepsTold 431 = .ok (.getfield 128, 3) := by decide +kernel
theorem dX12_keepsTold_434 : decode cX12_keepsTold 434 = .ok (.iload_n 1, 1) := by decide +kernel
theorem dX12_keepsTold_435 : decode cX12_keepsTold 435 = .ok (.iaload, 1) := by decide +kernel
theorem dX12_keepsTold_436 : decode cX12_keepsTold 436 = .ok (.invokevirtual 510, 3) := by decide +kernel
theorem dX12_keepsTold_439 : decode cX12_keepsTold 439 = .ok (.iastore, 1) := by decide +kernel
theorem dX12_keepsTold_440 : decode cX12_keepsTold 440 = .ok (.iinc 1 1, 3) := by decide +kernel
theorem dX12_keepsTold_443 : decode cX12_keepsTold 443 = .ok (.goto (-25), 3) := by decide +kernel
theorem dX12_keepsTold_446 : decode cX12_keepsTold 446 = .ok (.return_, 1) := by decide +kernel
theorem dX12_image_0 : decode cX12_image 0 = .ok (.aload_n 0, 1) := by decide +kernel
theorem dX12_image_1 : decode cX12_image 1 = .ok (.iconst 0, 1) := by decide +kernel
theorem dX12_image_2 : decode cX12_image 2 = .ok (.putfield 140, 3) := by decide +kernel
theorem dX12_image_5 : decode cX12_image 5 = .ok (.iload_n 1, 1) := by decide +kernel
theorem dX12_image_6 : decode cX12_image 6 = .ok (.ifCond .ne 12, 3) := by decide +kernel
theorem dX12_image_9 : decode cX12_image 9 = .ok (.aload_n 0, 1) := by decide +kernel
theorem dX12_image_10 : decode cX12_image 10 = .ok (.getfield 513, 3) := by decide +kernel
theorem dX12_image_13 : decode cX12_image 13 = .ok (.ifCond .ne 5, 3) := by decide +kernel
theorem dX12_image_16 : decode cX12_image 16 = .ok (.iconst 0, 1) := by decide +kernel
theorem dX12_image_17 : decode cX12_image 17 = .ok (.ireturn, 1) := by decide +kernel
theorem dX12_image_18 : decode cX12_image 18 = .ok (.aload_n 0, 1) := by decide +kernel
theorem dX12_image_19 : decode cX12_image 19 = .ok (.iload_n 1, 1) := by decide +kernel
theorem dX12_image_20 : decode cX12_image 20 = .ok (.putfield 507, 3) := by decide +kernel
theorem dX12_image_23 : decode cX12_image 23 = .ok (.aload_n 0, 1) := by decide +kernel
theorem dX12_image_24 : decode cX12_image 24 = .ok (.iconst 1, 1) := by decide +kernel
theorem dX12_image_25 : decode cX12_image 25 = .ok (.putfield 513, 3) := by decide +kernel
theorem dX12_image_28 : decode cX12_image 28 = .ok (.aload_n 0, 1) := by decide +kernel
theorem dX12_image_29 : decode cX12_image 29 = .ok (.iconst 0, 1) := by decide +kernel
theorem dX12_image_30 : decode cX12_image 30 = .ok (.putfield 504, 3) := by decide +kernel
theorem dX12_image_33 : decode cX12_image 33 = .ok (.iconst 0, 1) := by decide +kernel
theorem dX12_image_34 : decode cX12_image 34 = .ok (.istore_n 2, 1) := by decide +kernel
theorem dX12_image_35 : decode cX12_image 35 = .ok (.iload_n 2, 1) := by decide +kernel
theorem dX12_image_36 : decode cX12_image 36 = .ok (.bipush 93, 2) := by decide +kernel
theorem dX12_image_38 : decode cX12_image 38 = .ok (.if_icmp .ge 25, 3) := by decide +kernel
theorem dX12_image_41 : decode cX12_image 41 = .ok (.aload_n 0, 1) := by decide +kernel
theorem dX12_image_42 : decode cX12_image 42 = .ok (.getfield 7, 3) := by decide +kernel
theorem dX12_image_45 : decode cX12_image 45 = .ok (.iload_n 2, 1) := by decide +kernel
theorem dX12_image_46 : decode cX12_image 46 = .ok (.aload_n 0, 1) := by decide +kernel
theorem dX12_image_47 : decode cX12_image 47 = .ok (.aload_n 0, 1) := by decide +kernel
theorem dX12_image_48 : decode cX12_image 48 = .ok (.getfield 7, 3) := by decide +kernel
theorem dX12_image_51 : decode cX12_image 51 = .ok (.iload_n 2, 1) := by decide +kernel
theorem dX12_image_52 : decode cX12_image 52 = .ok (.iaload, 1) := by decide +kernel
theorem dX12_image_53 : decode cX12_image 53 = .ok (.invokevirtual 510, 3) := by decide +kernel
theorem dX12_image_56 : decode cX12_image 56 = .ok (.iastore, 1) := by decide +kernel
theorem dX12_image_57 : decode cX12_image 57 = .ok (.iinc 2 1, 3) := by decide +kernel
theorem dX12_image_60 : decode cX12_image 60 = .ok (.goto (-25), 3) := by decide +kernel
theorem dX12_image_63 : decode cX12_image 63 = .ok (.aload_n 0, 1) := by decide +kernel
theorem dX12_image_64 : decode cX12_image 64 = .ok (.invokevirtual 516, 3) := by decide +kernel
theorem dX12_image_67 : decode cX12_image 67 = .ok (.aload_n 0, 1) := by decide +kernel
theorem dX12_image_68 : decode cX12_image 68 = .ok (.invokevirtual 519, 3) := by decide +kernel
theorem dX12_image_71 : decode cX12_image 71 = .ok (.iconst 0, 1) := by decide +kernel
theorem dX12_image_72 : decode cX12_image 72 = .ok (.istore_n 2, 1) := by decide +kernel
theorem dX12_image_73 : decode cX12_image 73 = .ok (.iload_n 2, 1) := by decide +kernel
theorem dX12_image_74 : decode cX12_image 74 = .ok (.sipush 600, 3) := by decide +kernel
theorem dX12_image_77 : decode cX12_image 77 = .ok (.if_icmp .ge 25, 3) := by decide +kernel
theorem dX12_image_80 : decode cX12_image 80 = .ok (.aload_n 0, 1) := by decide +kernel
theorem dX12_image_81 : decode cX12_image 81 = .ok (.getfield 31, 3) := by decide +kernel
theorem dX12_image_84 : decode cX12_image 84 = .ok (.iload_n 2, 1) := by decide +kernel
theorem dX12_image_85 : decode cX12_image 85 = .ok (.aload_n 0, 1) := by decide +kernel
theorem dX12_image_86 : decode cX12_image 86 = .ok (.aload_n 0, 1) := by decide +kernel
theorem dX12_image_87 : decode cX12_image 87 = .ok (.getfield 31, 3) := by decide +kernel
theorem dX12_image_90 : decode cX12_image 90 = .ok (.iload_n 2, 1) := by decide +kernel
theorem dX12_image_91 : decode cX12_image 91 = .ok (.iaload, 1) := by decide +kernel
theorem dX12_image_92 : decode cX12_image 92 = .ok (.invokevirtual 510, 3) := by decide +kernel
theorem dX12_image_95 : decode cX12_image 95 = .ok (.iastore, 1) := by decide +kernel
theorem dX12_image_96 : decode cX12_image 96 = .ok (.iinc 2 1, 3) := by decide +kernel
theorem dX12_image_99 : decode cX12_image 99 = .ok (.goto (-26), 3) := by decide +kernel
theorem dX12_image_102 : decode cX12_image 102 = .ok (.aload_n 0, 1) := by decide +kernel
theorem dX12_image_103 : decode cX12_image 103 = .ok (.invokevirtual 522, 3) := by decide +kernel
theorem dX12_image_106 : decode cX12_image 106 = .ok (.iload_n 1, 1) := by decide +kernel
theorem dX12_image_107 : decode cX12_image 107 = .ok (.ifCond .ne 8, 3) := by decide +kernel
theorem dX12_image_110 : decode cX12_image 110 = .ok (.aload_n 0, 1) := by decide +kernel
theorem dX12_image_111 : decode cX12_image 111 = .ok (.iconst 0, 1) := by decide +kernel
theorem dX12_image_112 : decode cX12_image 112 = .ok (.putfield 147, 3) := by decide +kernel
theorem dX12_image_115 : decode cX12_image 115 = .ok (.iconst 1, 1) := by decide +kernel
theorem dX12_image_116 : decode cX12_image 116 = .ok (.ireturn, 1) := by decide +kernel
theorem dX12_look_0 : decode cX12_look 0 = .ok (.aload_n 0, 1) := by decide +kernel
theorem dX12_look_1 : decode cX12_look 1 = .ok (.iconst 0, 1) := by decide +kernel
theorem dX12_look_2 : decode cX12_look 2 = .ok (.putfield 140, 3) := by decide +kernel
theorem dX12_look_5 : decode cX12_look 5 = .ok (.iload_n 1, 1) := by decide +kernel
theorem dX12_look_6 : decode cX12_look 6 = .ok (.ifCond .ne 8, 3) := by decide +kernel
theorem dX12_look_9 : decode cX12_look 9 = .ok (.aload_n 0, 1) := by decide +kernel
theorem dX12_look_10 : decode cX12_look 10 = .ok (.getfield 156, 3) := by decide +kernel
theorem dX12_look_13 : decode cX12_look 13 = .ok (.ireturn, 1) := by decide +kernel
theorem dX12_look_14 : decode cX12_look 14 = .ok (.iload_n 1, 1) := by decide +kernel
theorem dX12_look_15 : decode cX12_look 15 = .ok (.iconst 1, 1) := by decide +kernel
theorem dX12_look_16 : decode cX12_look 16 = .ok (.if_icmp .ne 8, 3) := by decide +kernel
theorem dX12_look_19 : decode cX12_look 19 = .ok (.aload_n 0, 1) := by decide +kernel
theorem dX12_look_20 : decode cX12_look 20 = .ok (.getfield 159, 3) := by decide +kernel
theorem dX12_look_23 : decode cX12_look 23 = .ok (.ireturn, 1) := by decide +kernel
theorem dX12_look_24 : decode cX12_look 24 = .ok (.iload_n 1, 1) := by decide +kernel
theorem dX12_look_25 : decode cX12_look 25 = .ok (.iconst 2, 1) := by decide +kernel
theorem dX12_look_26 : decode cX12_look 26 = .ok (.if_icmp .ne 8, 3) := by decide +kernel
theorem dX12_look_29 : decode cX12_look 29 = .ok (.aload_n 0, 1) := by decide +kernel
theorem dX12_look_30 : decode cX12_look 30 = .ok (.getfield 162, 3) := by decide +kernel
theorem dX12_look_33 : decode cX12_look 33 = .ok (.ireturn, 1) := by decide +kernel
theorem dX12_look_34 : decode cX12_look 34 = .ok (.iload_n 1, 1) := by decide +kernel
theorem dX12_look_35 : decode cX12_look 35 = .ok (.iconst 3, 1) := by decide +kernel
theorem dX12_look_36 : decode cX12_look 36 = .ok (.if_icmp .ne 8, 3) := by decide +kernel
theorem dX12_look_39 : decode cX12_look 39 = .ok (.aload_n 0, 1) := by decide +kernel
theorem dX12_look_40 : decode cX12_look 40 = .ok (.invokevirtual 350, 3) := by decide +kernel
theorem dX12_look_43 : decode cX12_look 43 = .ok (.ireturn, 1) := by decide +kernel
theorem dX12_look_44 : decode cX12_look 44 = .ok (.aload_n 0, 1) := by decide +kernel
theorem dX12_look_45 : decode cX12_look 45 = .ok (.iload_n 1, 1) := by decide +kernel
theorem dX12_look_46 : decode cX12_look 46 = .ok (.iconst 4, 1) := by decide +kernel
theorem dX12_look_47 : decode cX12_look 47 = .ok (.bipush 7, 2) := by decide +kernel
theorem dX12_look_49 : decode cX12_look 49 = .ok (.invokevirtual 165, 3) := by decide +kernel
theorem dX12_look_52 : decode cX12_look 52 = .ok (.ifCond .eq 14, 3) := by decide +kernel
theorem dX12_look_55 : decode cX12_look 55 = .ok (.aload_n 0, 1) := by decide +kernel
theorem dX12_look_56 : decode cX12_look 56 = .ok (.getfield 7, 3) := by decide +kernel
theorem dX12_look_59 : decode cX12_look 59 = .ok (.iconst 3, 1) := by decide +kernel
theorem dX12_look_60 : decode cX12_look 60 = .ok (.iload_n 1, 1) := by decide +kernel
theorem dX12_look_61 : decode cX12_look 61 = .ok (.iadd, 1) := by decide +kernel
theorem dX12_look_62 : decode cX12_look 62 = .ok (.iconst 4, 1) := by decide +kernel
theorem dX12_look_63 : decode cX12_look 63 = .ok (.isub, 1) := by decide +kernel
theorem dX12_look_64 : decode cX12_look 64 = .ok (.iaload, 1) := by decide +kernel
theorem dX12_look_65 : decode cX12_look 65 = .ok (.ireturn, 1) := by decide +kernel
theorem dX12_look_66 : decode cX12_look 66 = .ok (.iload_n 1, 1) := by decide +kernel
theorem dX12_look_67 : decode cX12_look 67 = .ok (.bipush 8, 2) := by decide +kernel
theorem dX12_look_69 : decode cX12_look 69 = .ok (.if_icmp .ne 10, 3) := by decide +kernel
theorem dX12_look_72 : decode cX12_look 72 = .ok (.aload_n 0, 1) := by decide +kernel
theorem dX12_look_73 : decode cX12_look 73 = .ok (.getfield 7, 3) := by decide +kernel
theorem dX12_look_76 : decode cX12_look 76 = .ok (.iconst 0, 1) := by decide +kernel
theorem dX12_look_77 : decode cX12_look 77 = .ok (.iaload, 1) := by decide +kernel
theorem dX12_look_78 : decode cX12_look 78 = .ok (.ireturn, 1) := by decide +kernel
theorem dX12_look_79 : decode cX12_look 79 = .ok (.iload_n 1, 1) := by decide +kernel
theorem dX12_look_80 : decode cX12_look 80 = .ok (.bipush 9, 2) := by decide +kernel
theorem dX12_look_82 : decode cX12_look 82 = .ok (.if_icmp .ne 10, 3) := by decide +kernel
theorem dX12_look_85 : decode cX12_look 85 = .ok (.aload_n 0, 1) := by decide +kernel
theorem dX12_look_86 : decode cX12_look 86 = .ok (.getfield 7, 3) := by decide +kernel
theorem dX12_look_89 : decode cX12_look 89 = .ok (.iconst 2, 1) := by decide +kernel
theorem dX12_look_90 : decode cX12_look 90 = .ok (.iaload, 1) := by decide +kernel
theorem dX12_look_91 : decode cX12_look 91 = .ok (.ireturn, 1) := by decide +kernel
theorem dX12_look_92 : decode cX12_look 92 = .ok (.iload_n 1, 1) := by decide +kernel
theorem dX12_look_93 : decode cX12_look 93 = .ok (.bipush 10, 2) := by decide +kernel
theorem dX12_look_95 : decode cX12_look 95 = .ok (.if_icmp .ne 10, 3) := by decide +kernel
theorem dX12_look_98 : decode cX12_look 98 = .ok (.aload_n 0, 1) := by decide +kernel
theorem dX12_look_99 : decode cX12_look 99 = .ok (.getfield 7, 3) := by decide +kernel
theorem dX12_look_102 : decode cX12_look 102 = .ok (.iconst 1, 1) := by decide +kernel
theorem dX12_look_103 : decode cX12_look 103 = .ok (.iaload, 1) := by decide +kernel
theorem dX12_look_104 : decode cX12_look 104 = .ok (.ireturn, 1) := by decide +kernel
theorem dX12_look_105 : decode cX12_look 105 = .ok (.iload_n 1, 1) := by decide +kernel
theorem dX12_look_106 : decode cX12_look 106 = .ok (.bipush 11, 2) := by decide +kernel
theorem dX12_look_108 : decode cX12_look 108 = .ok (.if_icmp .ne 10, 3) := by decide +kernel
theorem dX12_look_111 : decode cX12_look 111 = .ok (.aload_n 0, 1) := by decide +kernel
theorem dX12_look_112 : decode cX12_look 112 = .ok (.getfield 40, 3) := by decide +kernel
theorem dX12_look_115 : decode cX12_look 115 = .ok (.iconst 0, 1) := by decide +kernel
theorem dX12_look_116 : decode cX12_look 116 = .ok (.iaload, 1) := by decide +kernel
theorem dX12_look_117 : decode cX12_look 117 = .ok (.ireturn, 1) := by decide +kernel
theorem dX12_look_118 : decode cX12_look 118 = .ok (.iload_n 1, 1) := by decide +kernel
theorem dX12_look_119 : decode cX12_look 119 = .ok (.bipush 12, 2) := by decide +kernel
theorem dX12_look_121 : decode cX12_look 121 = .ok (.if_icmp .ne 8, 3) := by decide +kernel
theorem dX12_look_124 : decode cX12_look 124 = .ok (.aload_n 0, 1) := by decide +kernel
theorem dX12_look_125 : decode cX12_look 125 = .ok (.getfield 323, 3) := by decide +kernel
theorem dX12_look_128 : decode cX12_look 128 = .ok (.ireturn, 1) := by decide +kernel
theorem dX12_look_129 : decode cX12_look 129 = .ok (.iload_n 1, 1) := by decide +kernel
theorem dX12_look_130 : decode cX12_look 130 = .ok (.bipush 13, 2) := by decide +kernel
theorem dX12_look_132 : decode cX12_look 132 = .ok (.if_icmp .ne 8, 3) := by decide +kernel
theorem dX12_look_135 : decode cX12_look 135 = .ok (.aload_n 0, 1) := by decide +kernel
theorem dX12_look_136 : decode cX12_look 136 = .ok (.getfield 326, 3) := by decide +kernel
theorem dX12_look_139 : decode cX12_look 139 = .ok (.ireturn, 1) := by decide +kernel
theorem dX12_look_140 : decode cX12_look 140 = .ok (.iload_n 1, 1) := by decide +kernel
theorem dX12_look_141 : decode cX12_look 141 = .ok (.bipush 14, 2) := by decide +kernel
theorem dX12_look_143 : decode cX12_look 143 = .ok (.if_icmp .ne 8, 3) := by decide +kernel
theorem dX12_look_146 : decode cX12_look 146 = .ok (.aload_n 0, 1) := by decide +kernel
theorem dX12_look_147 : decode cX12_look 147 = .ok (.getfield 320, 3) := by decide +kernel
theorem dX12_look_150 : decode cX12_look 150 = .ok (.ireturn, 1) := by decide +kernel
theorem dX12_look_151 : decode cX12_look 151 = .ok (.iload_n 1, 1) := by decide +kernel
theorem dX12_look_152 : decode cX12_look 152 = .ok (.bipush 15, 2) := by decide +kernel
theorem dX12_look_154 : decode cX12_look 154 = .ok (.if_icmp .ne 10, 3) := by decide +kernel
theorem dX12_look_157 : decode cX12_look 157 = .ok (.aload_n 0, 1) := by decide +kernel
theorem dX12_look_158 : decode cX12_look 158 = .ok (.getfield 147, 3) := by decide +kernel
theorem dX12_look_161 : decode cX12_look 161 = .ok (.goto 6, 3) := by decide +kernel
theorem dX12_look_164 : decode cX12_look 164 = .ok (.ldc_w 525, 3) := by decide +kernel
theorem dX12_look_167 : decode cX12_look 167 = .ok (.ireturn, 1) := by decide +kernel
theorem dJ11_isValidCodePoint_9a6ad_0 : decode cJ11_isValidCodePoint_9a6ad 0 = .ok (.iload_n 0, 1) := by decide +kernel
theorem dJ11_isValidCodePoint_9a6ad_1 : decode cJ11_isValidCodePoint_9a6ad 1 = .ok (.bipush 16, 2) := by decide +kernel
theorem dJ11_isValidCodePoint_9a6ad_3 : decode cJ11_isValidCodePoint_9a6ad 3 = .ok (.iushr, 1) := by decide +kernel
theorem dJ11_isValidCodePoint_9a6ad_4 : decode cJ11_isValidCodePoint_9a6ad 4 = .ok (.istore_n 1, 1) := by decide +kernel
theorem dJ11_isValidCodePoint_9a6ad_5 : decode cJ11_isValidCodePoint_9a6ad 5 = .ok (.iload_n 1, 1) := by decide +kernel
theorem dJ11_isValidCodePoint_9a6ad_6 : decode cJ11_isValidCodePoint_9a6ad 6 = .ok (.bipush 17, 2) := by decide +kernel
theorem dJ11_isValidCodePoint_9a6ad_8 : decode cJ11_isValidCodePoint_9a6ad 8 = .ok (.if_icmp .ge 7, 3) := by decide +kernel
theorem dJ11_isValidCodePoint_9a6ad_11 : decode cJ11_isValidCodePoint_9a6ad 11 = .ok (.iconst 1, 1) := by decide +kernel
theorem dJ11_isValidCodePoint_9a6ad_12 : decode cJ11_isValidCodePoint_9a6ad 12 = .ok (.goto 4, 3) := by decide +kernel
theorem dJ11_isValidCodePoint_9a6ad_15 : decode cJ11_isValidCodePoint_9a6ad 15 = .ok (.iconst 0, 1) := by decide +kernel
theorem dJ11_isValidCodePoint_9a6ad_16 : decode cJ11_isValidCodePoint_9a6ad 16 = .ok (.ireturn, 1) := by decide +kernel
theorem dJ11_highSurrogate_5068e_0 : decode cJ11_highSurrogate_5068e 0 = .ok (.iload_n 0, 1) := by decide +kernel
theorem dJ11_highSurrogate_5068e_1 : decode cJ11_highSurrogate_5068e 1 = .ok (.bipush 10, 2) := by decide +kernel
theorem dJ11_highSurrogate_5068e_3 : decode cJ11_highSurrogate_5068e 3 = .ok (.iushr, 1) := by decide +kernel
theorem dJ11_highSurrogate_5068e_4 : decode cJ11_highSurrogate_5068e 4 = .ok (.ldc 110, 2) := by decide +kernel
theorem dJ11_highSurrogate_5068e_6 : decode cJ11_highSurrogate_5068e 6 = .ok (.iadd, 1) := by decide +kernel
theorem dJ11_highSurrogate_5068e_7 : decode cJ11_highSurrogate_5068e 7 = .ok (.i2c, 1) := by decide +kernel
theorem dJ11_highSurrogate_5068e_8 : decode cJ11_highSurrogate_5068e 8 = .ok (.ireturn, 1) := by decide +kernel
theorem dJ11_lowSurrogate_5068e_0 : decode cJ11_lowSurrogate_5068e 0 = .ok (.iload_n 0, 1) := by decide +kernel
theorem dJ11_lowSurrogate_5068e_1 : decode cJ11_lowSurrogate_5068e 1 = .ok (.sipush 1023, 3) := by decide +kernel
theorem dJ11_lowSurrogate_5068e_4 : decode cJ11_lowSurrogate_5068e 4 = .ok (.iand, 1) := by decide +kernel
theorem dJ11_lowSurrogate_5068e_5 : decode cJ11_lowSurrogate_5068e 5 = .ok (.ldc 76, 2) := by decide +kernel
theorem dJ11_lowSurrogate_5068e_7 : decode cJ11_lowSurrogate_5068e 7 = .ok (.iadd, 1) := by decide +kernel
theorem dJ11_lowSurrogate_5068e_8 : decode cJ11_lowSurrogate_5068e 8 = .ok (.i2c, 1) := by decide +kernel
theorem dJ11_lowSurrogate_5068e_9 : decode cJ11_lowSurrogate_5068e 9 = .ok (.ireturn, 1) := by decide +kernel
theorem dJ6_compare_7cf53_0 : decode cJ6_compare_7cf53 0 = .ok (.iload_n 0, 1) := by decide +kernel
theorem dJ6_compare_7cf53_1 : decode cJ6_compare_7cf53 1 = .ok (.iload_n 1, 1) := by decide +kernel
theorem dJ6_compare_7cf53_2 : decode cJ6_compare_7cf53 2 = .ok (.if_icmp .ge 7, 3) := by decide +kernel
theorem dJ6_compare_7cf53_5 : decode cJ6_compare_7cf53 5 = .ok (.iconst (-1), 1) := by decide +kernel
theorem dJ6_compare_7cf53_6 : decode cJ6_compare_7cf53 6 = .ok (.goto 13, 3) := by decide +kernel
theorem dJ6_compare_7cf53_9 : decode cJ6_compare_7cf53 9 = .ok (.iload_n 0, 1) := by decide +kernel
theorem dJ6_compare_7cf53_10 : decode cJ6_compare_7cf53 10 = .ok (.iload_n 1, 1) := by decide +kernel
theorem dJ6_compare_7cf53_11 : decode cJ6_compare_7cf53 11 = .ok (.if_icmp .ne 7, 3) := by decide +kernel
theorem dJ6_compare_7cf53_14 : decode cJ6_compare_7cf53 14 = .ok (.iconst 0, 1) := by decide +kernel
theorem dJ6_compare_7cf53_15 : decode cJ6_compare_7cf53 15 = .ok (.goto 4, 3) := by decide +kernel
theorem dJ6_compare_7cf53_18 : decode cJ6_compare_7cf53 18 = .ok (.iconst 1, 1) := by decide +kernel
theorem dJ6_compare_7cf53_19 : decode cJ6_compare_7cf53 19 = .ok (.ireturn, 1) := by decide +kernel
theorem dJ6_bitCount_0f7a4_0 : decode cJ6_bitCount_0f7a4 0 = .ok (.iload_n 0, 1) := by decide +kernel
theorem dJ6_bitCount_0f7a4_1 : decode cJ6_bitCount_0f7a4 1 = .ok (.iload_n 0, 1) := by decide +kernel
theorem dJ6_bitCount_0f7a4_2 : decode cJ6_bitCount_0f7a4 2 = .ok (.iconst 1, 1) := by decide +kernel
theorem dJ6_bitCount_0f7a4_3 : decode cJ6_bitCount_0f7a4 3 = .ok (.iushr, 1) := by decide +kernel
theorem dJ6_bitCount_0f7a4_4 : decode cJ6_bitCount_0f7a4 4 = .ok (.ldc_w 265, 3) := by decide +kernel
theorem dJ6_bitCount_0f7a4_7 : decode cJ6_bitCount_0f7a4 7 = .ok (.iand, 1) := by decide +kernel
theorem dJ6_bitCount_0f7a4_8 : decode cJ6_bitCount_0f7a4 8 = .ok (.isub, 1) := by decide +kernel
theorem dJ6_bitCount_0f7a4_9 : decode cJ6_bitCount_0f7a4 9 = .ok (.istore_n 0, 1) := by decide +kernel
theorem dJ6_bitCount_0f7a4_10 : decode cJ6_bitCount_0f7a4 10 = .ok (.iload_n 0, 1) := by decide +kernel
theorem dJ6_bitCount_0f7a4_11 : decode cJ6_bitCount_0f7a4 11 = .ok (.ldc_w 266, 3) := by decide +kernel
theorem dJ6_bitCount_0f7a4_14 : decode cJ6_bitCount_0f7a4 14 = .ok (.iand, 1) := by decide +kernel
theorem dJ6_bitCount_0f7a4_15 : decode cJ6_bitCount_0f7a4 15 = .ok (.iload_n 0, 1) := by decide +kernel
theorem dJ6_bitCount_0f7a4_16 : decode cJ6_bitCount_0f7a4 16 = .ok (.iconst 2, 1) := by decide +kernel
theorem dJ6_bitCount_0f7a4_17 : decode cJ6_bitCount_0f7a4 17 = .ok (.iushr, 1) := by decide +kernel
theorem dJ6_bitCount_0f7a4_18 : decode cJ6_bitCount_0f7a4 18 = .ok (.ldc_w 266, 3) := by decide +kernel
theorem dJ6_bitCount_0f7a4_21 : decode cJ6_bitCount_0f7a4 21 = .ok (.iand, 1) := by decide +kernel
theorem dJ6_bitCount_0f7a4_22 : decode cJ6_bitCount_0f7a4 22 = .ok (.iadd, 1) := by decide +kernel
theorem dJ6_bitCount_0f7a4_23 : decode cJ6_bitCount_0f7a4 23 = .ok (.istore_n 0, 1) := by decide +kernel
theorem dJ6_bitCount_0f7a4_24 : decode cJ6_bitCount_0f7a4 24 = .ok (.iload_n 0, 1) := by decide +kernel
theorem dJ6_bitCount_0f7a4_25 : decode cJ6_bitCount_0f7a4 25 = .ok (.iload_n 0, 1) := by decide +kernel
theorem dJ6_bitCount_0f7a4_26 : decode cJ6_bitCount_0f7a4 26 = .ok (.iconst 4, 1) := by decide +kernel
theorem dJ6_bitCount_0f7a4_27 : decode cJ6_bitCount_0f7a4 27 = .ok (.iushr, 1) := by decide +kernel
theorem dJ6_bitCount_0f7a4_28 : decode cJ6_bitCount_0f7a4 28 = .ok (.iadd, 1) := by decide +kernel
theorem dJ6_bitCount_0f7a4_29 : decode cJ6_bitCount_0f7a4 29 = .ok (.ldc_w 267, 3) := by decide +kernel
theorem dJ6_bitCount_0f7a4_32 : decode cJ6_bitCount_0f7a4 32 = .ok (.iand, 1) := by decide +kernel
theorem dJ6_bitCount_0f7a4_33 : decode cJ6_bitCount_0f7a4 33 = .ok (.istore_n 0, 1) := by decide +kernel
theorem dJ6_bitCount_0f7a4_34 : decode cJ6_bitCount_0f7a4 34 = .ok (.iload_n 0, 1) := by decide +kernel
theorem dJ6_bitCount_0f7a4_35 : decode cJ6_bitCount_0f7a4 35 = .ok (.iload_n 0, 1) := by decide +kernel
theorem dJ6_bitCount_0f7a4_36 : decode cJ6_bitCount_0f7a4 36 = .ok (.bipush 8, 2) := by decide +kernel
theorem dJ6_bitCount_0f7a4_38 : decode cJ6_bitCount_0f7a4 38 = .ok (.iushr, 1) := by decide +kernel
theorem dJ6_bitCount_0f7a4_39 : decode cJ6_bitCount_0f7a4 39 = .ok (.iadd, 1) := by decide +kernel
theorem dJ6_bitCount_0f7a4_40 : decode cJ6_bitCount_0f7a4 40 = .ok (.istore_n 0, 1) := by decide +kernel
theorem dJ6_bitCount_0f7a4_41 : decode cJ6_bitCount_0f7a4 41 = .ok (.iload_n 0, 1) := by decide +kernel
theorem dJ6_bitCount_0f7a4_42 : decode cJ6_bitCount_0f7a4 42 = .ok (.iload_n 0, 1) := by decide +kernel
theorem dJ6_bitCount_0f7a4_43 : decode cJ6_bitCount_0f7a4 43 = .ok (.bipush 16, 2) := by decide +kernel
theorem dJ6_bitCount_0f7a4_45 : decode cJ6_bitCount_0f7a4 45 = .ok (.iushr, 1) := by decide +kernel
theorem dJ6_bitCount_0f7a4_46 : decode cJ6_bitCount_0f7a4 46 = .ok (.iadd, 1) := by decide +kernel
theorem dJ6_bitCount_0f7a4_47 : decode cJ6_bitCount_0f7a4 47 = .ok (.istore_n 0, 1) := by decide +kernel
theorem dJ6_bitCount_0f7a4_48 : decode cJ6_bitCount_0f7a4 48 = .ok (.iload_n 0, 1) := by decide +kernel
theorem dJ6_bitCount_0f7a4_49 : decode cJ6_bitCount_0f7a4 49 = .ok (.bipush 63, 2) := by decide +kernel
theorem dJ6_bitCount_0f7a4_51 : decode cJ6_bitCount_0f7a4 51 = .ok (.iand, 1) := by decide +kernel
theorem dJ6_bitCount_0f7a4_52 : decode cJ6_bitCount_0f7a4 52 = .ok (.ireturn, 1) := by decide +kernel
theorem dJ9_floorMod_7cf53_0 : decode cJ9_floorMod_7cf53 0 = .ok (.iload_n 0, 1) := by decide +kernel
theorem dJ9_floorMod_7cf53_1 : decode cJ9_floorMod_7cf53 1 = .ok (.iload_n 1, 1) := by decide +kernel
theorem dJ9_floorMod_7cf53_2 : decode cJ9_floorMod_7cf53 2 = .ok (.irem, 1) := by decide +kernel
theorem dJ9_floorMod_7cf53_3 : decode cJ9_floorMod_7cf53 3 = .ok (.istore_n 2, 1) := by decide +kernel
theorem dJ9_floorMod_7cf53_4 : decode cJ9_floorMod_7cf53 4 = .ok (.iload_n 0, 1) := by decide +kernel
theorem dJ9_floorMod_7cf53_5 : decode cJ9_floorMod_7cf53 5 = .ok (.iload_n 1, 1) := by decide +kernel
theorem dJ9_floorMod_7cf53_6 : decode cJ9_floorMod_7cf53 6 = .ok (.ixor, 1) := by decide +kernel
theorem dJ9_floorMod_7cf53_7 : decode cJ9_floorMod_7cf53 7 = .ok (.ifCond .ge 11, 3) := by decide +kernel
theorem dJ9_floorMod_7cf53_10 : decode cJ9_floorMod_7cf53 10 = .ok (.iload_n 2, 1) := by decide +kernel
theorem dJ9_floorMod_7cf53_11 : decode cJ9_floorMod_7cf53 11 = .ok (.ifCond .eq 7, 3) := by decide +kernel
theorem dJ9_floorMod_7cf53_14 : decode cJ9_floorMod_7cf53 14 = .ok (.iload_n 2, 1) := by decide +kernel
theorem dJ9_floorMod_7cf53_15 : decode cJ9_floorMod_7cf53 15 = .ok (.iload_n 1, 1) := by decide +kernel
theorem dJ9_floorMod_7cf53_16 : decode cJ9_floorMod_7cf53 16 = .ok (.iadd, 1) := by decide +kernel
theorem dJ9_floorMod_7cf53_17 : decode cJ9_floorMod_7cf53 17 = .ok (.ireturn, 1) := by decide +kernel
theorem dJ9_floorMod_7cf53_18 : decode cJ9_floorMod_7cf53 18 = .ok (.iload_n 2, 1) := by decide +kernel
theorem dJ9_floorMod_7cf53_19 : decode cJ9_floorMod_7cf53 19 = .ok (.ireturn, 1) := by decide +kernel
theorem dJ9_abs_0f7a4_0 : decode cJ9_abs_0f7a4 0 = .ok (.iload_n 0, 1) := by decide +kernel
theorem dJ9_abs_0f7a4_1 : decode cJ9_abs_0f7a4 1 = .ok (.ifCond .ge 8, 3) := by decide +kernel
theorem dJ9_abs_0f7a4_4 : decode cJ9_abs_0f7a4 4 = .ok (.iload_n 0, 1) := by decide +kernel
theorem dJ9_abs_0f7a4_5 : decode cJ9_abs_0f7a4 5 = .ok (.ineg, 1) := by decide +kernel
theorem dJ9_abs_0f7a4_6 : decode cJ9_abs_0f7a4 6 = .ok (.goto 4, 3) := by decide +kernel
theorem dJ9_abs_0f7a4_9 : decode cJ9_abs_0f7a4 9 = .ok (.iload_n 0, 1) := by decide +kernel
theorem dJ9_abs_0f7a4_10 : decode cJ9_abs_0f7a4 10 = .ok (.ireturn, 1) := by decide +kernel
theorem dJ9_max_7cf53_0 : decode cJ9_max_7cf53 0 = .ok (.iload_n 0, 1) := by decide +kernel
theorem dJ9_max_7cf53_1 : decode cJ9_max_7cf53 1 = .ok (.iload_n 1, 1) := by decide +kernel
theorem dJ9_max_7cf53_2 : decode cJ9_max_7cf53 2 = .ok (.if_icmp .lt 7, 3) := by decide +kernel
theorem dJ9_max_7cf53_5 : decode cJ9_max_7cf53 5 = .ok (.iload_n 0, 1) := by decide +kernel
theorem dJ9_max_7cf53_6 : decode cJ9_max_7cf53 6 = .ok (.goto 4, 3) := by decide +kernel
theorem dJ9_max_7cf53_9 : decode cJ9_max_7cf53 9 = .ok (.iload_n 1, 1) := by decide +kernel
theorem dJ9_max_7cf53_10 : decode cJ9_max_7cf53 10 = .ok (.ireturn, 1) := by decide +kernel
theorem dJ9_min_7cf53_0 : decode cJ9_min_7cf53 0 = .ok (.iload_n 0, 1) := by decide +kernel
theorem dJ9_min_7cf53_1 : decode cJ9_min_7cf53 1 = .ok (.iload_n 1, 1) := by decide +kernel
theorem dJ9_min_7cf53_2 : decode cJ9_min_7cf53 2 = .ok (.if_icmp .gt 7, 3) := by decide +kernel
theorem dJ9_min_7cf53_5 : decode cJ9_min_7cf53 5 = .ok (.iload_n 0, 1) := by decide +kernel
theorem dJ9_min_7cf53_6 : decode cJ9_min_7cf53 6 = .ok (.goto 4, 3) := by decide +kernel
theorem dJ9_min_7cf53_9 : decode cJ9_min_7cf53 9 = .ok (.iload_n 1, 1) := by decide +kernel
theorem dJ9_min_7cf53_10 : decode cJ9_min_7cf53 10 = .ok (.ireturn, 1) := by decide +kernel
theorem dJ0_length_8abf5_0 : decode cJ0_length_8abf5 0 = .ok (.aload_n 0, 1) := by decide +kernel
theorem dJ0_length_8abf5_1 : decode cJ0_length_8abf5 1 = .ok (.getfield 9, 3) := by decide +kernel
theorem dJ0_length_8abf5_4 : decode cJ0_length_8abf5 4 = .ok (.arraylength, 1) := by decide +kernel
theorem dJ0_length_8abf5_5 : decode cJ0_length_8abf5 5 = .ok (.aload_n 0, 1) := by decide +kernel
theorem dJ0_length_8abf5_6 : decode cJ0_length_8abf5 6 = .ok (.invokevirtual 335, 3) := by decide +kernel
theorem dJ0_length_8abf5_9 : decode cJ0_length_8abf5 9 = .ok (.ishr, 1) := by decide +kernel
theorem dJ0_length_8abf5_10 : decode cJ0_length_8abf5 10 = .ok (.ireturn, 1) := by decide +kernel
theorem dJ0_charAt_5068e_0 : decode cJ0_charAt_5068e 0 = .ok (.aload_n 0, 1) := by decide +kernel
theorem dJ0_charAt_5068e_1 : decode cJ0_charAt_5068e 1 = .ok (.invokevirtual 492, 3) := by decide +kernel
theorem dJ0_charAt_5068e_4 : decode cJ0_charAt_5068e 4 = .ok (.ifCond .eq 12, 3) := by decide +kernel
theorem dJ0_charAt_5068e_7 : decode cJ0_charAt_5068e 7 = .ok (.aload_n 0, 1) := by decide +kernel
theorem dJ0_charAt_5068e_8 : decode cJ0_charAt_5068e 8 = .ok (.getfield 9, 3) := by decide +kernel
theorem dJ0_charAt_5068e_11 : decode cJ0_charAt_5068e 11 = .ok (.iload_n 1, 1) := by decide +kernel
theorem dJ0_charAt_5068e_12 : decode cJ0_charAt_5068e 12 = .ok (.invokestatic 495, 3) := by decide +kernel
theorem dJ0_charAt_5068e_15 : decode cJ0_charAt_5068e 15 = .ok (.ireturn, 1) := by decide +kernel
theorem dJ0_charAt_5068e_16 : decode cJ0_charAt_5068e 16 = .ok (.aload_n 0, 1) := by decide +kernel
theorem dJ0_charAt_5068e_17 : decode cJ0_charAt_5068e 17 = .ok (.getfield 9, 3) := by decide +kernel
theorem dJ0_charAt_5068e_20 : decode cJ0_charAt_5068e 20 = .ok (.iload_n 1, 1) := by decide +kernel
theorem dJ0_charAt_5068e_21 : decode cJ0_charAt_5068e 21 = .ok (.invokestatic 498, 3) := by decide +kernel
theorem dJ0_charAt_5068e_24 : decode cJ0_charAt_5068e 24 = .ok (.ireturn, 1) := by decide +kernel
theorem dJ0_indexOf_0f7a4_0 : decode cJ0_indexOf_0f7a4 0 = .ok (.aload_n 0, 1) := by decide +kernel
theorem dJ0_indexOf_0f7a4_1 : decode cJ0_indexOf_0f7a4 1 = .ok (.iload_n 1, 1) := by decide +kernel
theorem dJ0_indexOf_0f7a4_2 : decode cJ0_indexOf_0f7a4 2 = .ok (.iconst 0, 1) := by decide +kernel
theorem dJ0_indexOf_0f7a4_3 : decode cJ0_indexOf_0f7a4 3 = .ok (.invokevirtual 633, 3) := by decide +kernel
theorem dJ0_indexOf_0f7a4_6 : decode cJ0_indexOf_0f7a4 6 = .ok (.ireturn, 1) := by decide +kernel
theorem dJ0_indexOf_7cf53_0 : decode cJ0_indexOf_7cf53 0 = .ok (.aload_n 0, 1) := by decide +kernel
theorem dJ0_indexOf_7cf53_1 : decode cJ0_indexOf_7cf53 1 = .ok (.invokevirtual 492, 3) := by decide +kernel
theorem dJ0_indexOf_7cf53_4 : decode cJ0_indexOf_7cf53 4 = .ok (.ifCond .eq 19, 3) := by decide +kernel
theorem dJ0_indexOf_7cf53_7 : decode cJ0_indexOf_7cf53 7 = .ok (.aload_n 0, 1) := by decide +kernel
theorem dJ0_indexOf_7cf53_8 : decode cJ0_indexOf_7cf53 8 = .ok (.getfield 9, 3) := by decide +kernel
theorem dJ0_indexOf_7cf53_11 : decode cJ0_indexOf_7cf53 11 = .ok (.iload_n 1, 1) := by decide +kernel
theorem dJ0_indexOf_7cf53_12 : decode cJ0_indexOf_7cf53 12 = .ok (.iload_n 2, 1) := by decide +kernel
theorem dJ0_indexOf_7cf53_13 : decode cJ0_indexOf_7cf53 13 = .ok (.aload_n 0, 1) := by decide +kernel
theorem dJ0_indexOf_7cf53_14 : decode cJ0_indexOf_7cf53 14 = .ok (.invokevirtual 505, 3) := by decide +kernel
theorem dJ0_indexOf_7cf53_17 : decode cJ0_indexOf_7cf53 17 = .ok (.invokestatic 637, 3) := by decide +kernel
theorem dJ0_indexOf_7cf53_20 : decode cJ0_indexOf_7cf53 20 = .ok (.goto 16, 3) := by decide +kernel
theorem dJ0_indexOf_7cf53_23 : decode cJ0_indexOf_7cf53 23 = .ok (.aload_n 0, 1) := by decide +kernel
theorem dJ0_indexOf_7cf53_24 : decode cJ0_indexOf_7cf53 24 = .ok (.getfield 9, 3) := by decide +kernel
theorem dJ0_indexOf_7cf53_27 : decode cJ0_indexOf_7cf53 27 = .ok (.iload_n 1, 1) := by decide +kernel
theorem dJ0_indexOf_7cf53_28 : decode cJ0_indexOf_7cf53 28 = .ok (.iload_n 2, 1) := by decide +kernel
theorem dJ0_indexOf_7cf53_29 : decode cJ0_indexOf_7cf53 29 = .ok (.aload_n 0, 1) := by decide +kernel
theorem dJ0_indexOf_7cf53_30 : decode cJ0_indexOf_7cf53 30 = .ok (.invokevirtual 505, 3) := by decide +kernel
theorem dJ0_indexOf_7cf53_33 : decode cJ0_indexOf_7cf53 33 = .ok (.invokestatic 640, 3) := by decide +kernel
theorem dJ0_indexOf_7cf53_36 : decode cJ0_indexOf_7cf53 36 = .ok (.ireturn, 1) := by decide +kernel
theorem dJ0_coder_7d493_0 : decode cJ0_coder_7d493 0 = .ok (.getstatic 38, 3) := by decide +kernel
theorem dJ0_coder_7d493_3 : decode cJ0_coder_7d493 3 = .ok (.ifCond .eq 10, 3) := by decide +kernel
theorem dJ0_coder_7d493_6 : decode cJ0_coder_7d493 6 = .ok (.aload_n 0, 1) := by decide +kernel
theorem dJ0_coder_7d493_7 : decode cJ0_coder_7d493 7 = .ok (.getfield 15, 3) := by decide +kernel
theorem dJ0_coder_7d493_10 : decode cJ0_coder_7d493 10 = .ok (.goto 4, 3) := by decide +kernel
theorem dJ0_coder_7d493_13 : decode cJ0_coder_7d493 13 = .ok (.iconst 1, 1) := by decide +kernel
theorem dJ0_coder_7d493_14 : decode cJ0_coder_7d493 14 = .ok (.ireturn, 1) := by decide +kernel
theorem dJ0_isLatin1_aae02_0 : decode cJ0_isLatin1_aae02 0 = .ok (.getstatic 38, 3) := by decide +kernel
theorem dJ0_isLatin1_aae02_3 : decode cJ0_isLatin1_aae02 3 = .ok (.ifCond .eq 14, 3) := by decide +kernel
theorem dJ0_isLatin1_aae02_6 : decode cJ0_isLatin1_aae02 6 = .ok (.aload_n 0, 1) := by decide +kernel
theorem dJ0_isLatin1_aae02_7 : decode cJ0_isLatin1_aae02 7 = .ok (.getfield 15, 3) := by decide +kernel
theorem dJ0_isLatin1_aae02_10 : decode cJ0_isLatin1_aae02 10 = .ok (.ifCond .ne 7, 3) := by decide +kernel
theorem dJ0_isLatin1_aae02_13 : decode cJ0_isLatin1_aae02 13 = .ok (.iconst 1, 1) := by decide +kernel
theorem dJ0_isLatin1_aae02_14 : decode cJ0_isLatin1_aae02 14 = .ok (.goto 4, 3) := by decide +kernel
theorem dJ0_isLatin1_aae02_17 : decode cJ0_isLatin1_aae02 17 = .ok (.iconst 0, 1) := by decide +kernel
theorem dJ0_isLatin1_aae02_18 : decode cJ0_isLatin1_aae02 18 = .ok (.ireturn, 1) := by decide +kernel
theorem dJ0_checkIndex_df160_0 : decode cJ0_checkIndex_df160 0 = .ok (.iload_n 0, 1) := by decide +kernel
theorem dJ0_checkIndex_df160_1 : decode cJ0_checkIndex_df160 1 = .ok (.iload_n 1, 1) := by decide +kernel
theorem dJ0_checkIndex_df160_2 : decode cJ0_checkIndex_df160 2 = .ok (.getstatic 1053, 3) := by decide +kernel
theorem dJ0_checkIndex_df160_5 : decode cJ0_checkIndex_df160 5 = .ok (.invokestatic 1059, 3) := by decide +kernel
theorem dJ0_checkIndex_df160_8 : decode cJ0_checkIndex_df160 8 = .ok (.pop, 1) := by decide +kernel
theorem dJ0_checkIndex_df160_9 : decode cJ0_checkIndex_df160 9 = .ok (.return_, 1) := by decide +kernel
theorem dJ0_checkBoundsBeginEnd_23922_0 : decode cJ0_checkBoundsBeginEnd_23922 0 = .ok (.iload_n 0, 1) := by decide +kernel
theorem dJ0_checkBoundsBeginEnd_23922_1 : decode cJ0_checkBoundsBeginEnd_23922 1 = .ok (.iload_n 1, 1) := by decide +kernel
theorem dJ0_checkBoundsBeginEnd_23922_2 : decode cJ0_checkBoundsBeginEnd_23922 2 = .ok (.iload_n 2, 1) := by decide +kernel
theorem dJ0_checkBoundsBeginEnd_23922_3 : decode cJ0_checkBoundsBeginEnd_23922 3 = .ok (.getstatic 1053, 3) := by decide +kernel
theorem dJ0_checkBoundsBeginEnd_23922_6 : decode cJ0_checkBoundsBeginEnd_23922 6 = .ok (.invokestatic 1062, 3) := by decide +kernel
theorem dJ0_checkBoundsBeginEnd_23922_9 : decode cJ0_checkBoundsBeginEnd_23922 9 = .ok (.pop, 1) := by decide +kernel
theorem dJ0_checkBoundsBeginEnd_23922_10 : decode cJ0_checkBoundsBeginEnd_23922 10 = .ok (.return_, 1) := by decide +kernel
theorem dJ1_charAt_3b067_0 : decode cJ1_charAt_3b067 0 = .ok (.iload_n 1, 1) := by decide +kernel
theorem dJ1_charAt_3b067_1 : decode cJ1_charAt_3b067 1 = .ok (.aload_n 0, 1) := by decide +kernel
theorem dJ1_charAt_3b067_2 : decode cJ1_charAt_3b067 2 = .ok (.arraylength, 1) := by decide +kernel
theorem dJ1_charAt_3b067_3 : decode cJ1_charAt_3b067 3 = .ok (.invokestatic 9, 3) := by decide +kernel
theorem dJ1_charAt_3b067_6 : decode cJ1_charAt_3b067 6 = .ok (.aload_n 0, 1) := by decide +kernel
theorem dJ1_charAt_3b067_7 : decode cJ1_charAt_3b067 7 = .ok (.iload_n 1, 1) := by decide +kernel
theorem dJ1_charAt_3b067_8 : decode cJ1_charAt_3b067 8 = .ok (.baload, 1) := by decide +kernel
theorem dJ1_charAt_3b067_9 : decode cJ1_charAt_3b067 9 = .ok (.sipush 255, 3) := by decide +kernel
theorem dJ1_charAt_3b067_12 : decode cJ1_charAt_3b067 12 = .ok (.iand, 1) := by decide +kernel
theorem dJ1_charAt_3b067_13 : decode cJ1_charAt_3b067 13 = .ok (.i2c, 1) := by decide +kernel
theorem dJ1_charAt_3b067_14 : decode cJ1_charAt_3b067 14 = .ok (.ireturn, 1) := by decide +kernel
theorem dJ1_canEncode_9a6ad_0 : decode cJ1_canEncode_9a6ad 0 = .ok (.iload_n 0, 1) := by decide +kernel
theorem dJ1_canEncode_9a6ad_1 : decode cJ1_canEncode_9a6ad 1 = .ok (.ifCond .lt 14, 3) := by decide +kernel
theorem dJ1_canEncode_9a6ad_4 : decode cJ1_canEncode_9a6ad 4 = .ok (.iload_n 0, 1) := by decide +kernel
theorem dJ1_canEncode_9a6ad_5 : decode cJ1_canEncode_9a6ad 5 = .ok (.sipush 255, 3) := by decide +kernel
theorem dJ1_canEncode_9a6ad_8 : decode cJ1_canEncode_9a6ad 8 = .ok (.if_icmp .gt 7, 3) := by decide +kernel
theorem dJ1_canEncode_9a6ad_11 : decode cJ1_canEncode_9a6ad 11 = .ok (.iconst 1, 1) := by decide +kernel
theorem dJ1_canEncode_9a6ad_12 : decode cJ1_canEncode_9a6ad 12 = .ok (.goto 4, 3) := by decide +kernel
theorem dJ1_canEncode_9a6ad_15 : decode cJ1_canEncode_9a6ad 15 = .ok (.iconst 0, 1) := by decide +kernel
theorem dJ1_canEncode_9a6ad_16 : decode cJ1_canEncode_9a6ad 16 = .ok (.ireturn, 1) := by decide +kernel
theorem dJ1_indexOf_4cfef_0 : decode cJ1_indexOf_4cfef 0 = .ok (.iload_n 1, 1) := by decide +kernel
theorem dJ1_indexOf_4cfef_1 : decode cJ1_indexOf_4cfef 1 = .ok (.invokestatic 88, 3) := by decide +kernel
theorem dJ1_indexOf_4cfef_4 : decode cJ1_indexOf_4cfef 4 = .ok (.ifCond .ne 5, 3) := by decide +kernel
theorem dJ1_indexOf_4cfef_7 : decode cJ1_indexOf_4cfef 7 = .ok (.iconst (-1), 1) := by decide +kernel
theorem dJ1_indexOf_4cfef_8 : decode cJ1_indexOf_4cfef 8 = .ok (.ireturn, 1) := by decide +kernel
theorem dJ1_indexOf_4cfef_9 : decode cJ1_indexOf_4cfef 9 = .ok (.iload_n 2, 1) := by decide +kernel
theorem dJ1_indexOf_4cfef_10 : decode cJ1_indexOf_4cfef 10 = .ok (.iconst 0, 1) := by decide +kernel
theorem dJ1_indexOf_4cfef_11 : decode cJ1_indexOf_4cfef 11 = .ok (.invokestatic 92, 3) := by decide +kernel
theorem dJ1_indexOf_4cfef_14 : decode cJ1_indexOf_4cfef 14 = .ok (.istore_n 2, 1) := by decide +kernel
theorem dJ1_indexOf_4cfef_15 : decode cJ1_indexOf_4cfef 15 = .ok (.iload_n 3, 1) := by decide +kernel
theorem dJ1_indexOf_4cfef_16 : decode cJ1_indexOf_4cfef 16 = .ok (.aload_n 0, 1) := by decide +kernel
theorem dJ1_indexOf_4cfef_17 : decode cJ1_indexOf_4cfef 17 = .ok (.arraylength, 1) := by decide +kernel
theorem dJ1_indexOf_4cfef_18 : decode cJ1_indexOf_4cfef 18 = .ok (.invokestatic 38, 3) := by decide +kernel
theorem dJ1_indexOf_4cfef_21 : decode cJ1_indexOf_4cfef 21 = .ok (.istore_n 3, 1) := by decide +kernel
theorem dJ1_indexOf_4cfef_22 : decode cJ1_indexOf_4cfef 22 = .ok (.iload_n 2, 1) := by decide +kernel
theorem dJ1_indexOf_4cfef_23 : decode cJ1_indexOf_4cfef 23 = .ok (.iload_n 3, 1) := by decide +kernel
theorem dJ1_indexOf_4cfef_24 : decode cJ1_indexOf_4cfef 24 = .ok (.if_icmp .lt 5, 3) := by decide +kernel
theorem dJ1_indexOf_4cfef_27 : decode cJ1_indexOf_4cfef 27 = .ok (.iconst (-1), 1) := by decide +kernel
theorem dJ1_indexOf_4cfef_28 : decode cJ1_indexOf_4cfef 28 = .ok (.ireturn, 1) := by decide +kernel
theorem dJ1_indexOf_4cfef_29 : decode cJ1_indexOf_4cfef 29 = .ok (.aload_n 0, 1) := by decide +kernel
theorem dJ1_indexOf_4cfef_30 : decode cJ1_indexOf_4cfef 30 = .ok (.iload_n 1, 1) := by decide +kernel
theorem dJ1_indexOf_4cfef_31 : decode cJ1_indexOf_4cfef 31 = .ok (.iload_n 2, 1) := by decide +kernel
theorem dJ1_indexOf_4cfef_32 : decode cJ1_indexOf_4cfef 32 = .ok (.iload_n 3, 1) := by decide +kernel
theorem dJ1_indexOf_4cfef_33 : decode cJ1_indexOf_4cfef 33 = .ok (.invokestatic 95, 3) := by decide +kernel
theorem dJ1_indexOf_4cfef_36 : decode cJ1_indexOf_4cfef 36 = .ok (.ireturn, 1) := by decide +kernel
theorem dJ1_indexOfChar_4cfef_0 : decode cJ1_indexOfChar_4cfef 0 = .ok (.iload_n 1, 1) := by decide +kernel
theorem dJ1_indexOfChar_4cfef_1 : decode cJ1_indexOfChar_4cfef 1 = .ok (.i2b, 1) := by decide +kernel
theorem dJ1_indexOfChar_4cfef_2 : decode cJ1_indexOfChar_4cfef 2 = .ok (.istore 4, 2) := by decide +kernel
theorem dJ1_indexOfChar_4cfef_4 : decode cJ1_indexOfChar_4cfef 4 = .ok (.iload_n 2, 1) := by decide +kernel
theorem dJ1_indexOfChar_4cfef_5 : decode cJ1_indexOfChar_4cfef 5 = .ok (.istore 5, 2) := by decide +kernel
theorem dJ1_indexOfChar_4cfef_7 : decode cJ1_indexOfChar_4cfef 7 = .ok (.iload 5, 2) := by decide +kernel
theorem dJ1_indexOfChar_4cfef_9 : decode cJ1_indexOfChar_4cfef 9 = .ok (.iload_n 3, 1) := by decide +kernel
theorem dJ1_indexOfChar_4cfef_10 : decode cJ1_indexOfChar_4cfef 10 = .ok (.if_icmp .ge 21, 3) := by decide +kernel
theorem dJ1_indexOfChar_4cfef_13 : decode cJ1_indexOfChar_4cfef 13 = .ok (.aload_n 0, 1) := by decide +kernel
theorem dJ1_indexOfChar_4cfef_14 : decode cJ1_indexOfChar_4cfef 14 = .ok (.iload 5, 2) := by decide +kernel
theorem dJ1_indexOfChar_4cfef_16 : decode cJ1_indexOfChar_4cfef 16 = .ok (.baload, 1) := by decide +kernel
theorem dJ1_indexOfChar_4cfef_17 : decode cJ1_indexOfChar_4cfef 17 = .ok (.iload 4, 2) := by decide +kernel
theorem dJ1_indexOfChar_4cfef_19 : decode cJ1_indexOfChar_4cfef 19 = .ok (.if_icmp .ne 6, 3) := by decide +kernel
theorem dJ1_indexOfChar_4cfef_22 : decode cJ1_indexOfChar_4cfef 22 = .ok (.iload 5, 2) := by decide +kernel
theorem dJ1_indexOfChar_4cfef_24 : decode cJ1_indexOfChar_4cfef 24 = .ok (.ireturn, 1) := by decide +kernel
theorem dJ1_indexOfChar_4cfef_25 : decode cJ1_indexOfChar_4cfef 25 = .ok (.iinc 5 1, 3) := by decide +kernel
theorem dJ1_indexOfChar_4cfef_28 : decode cJ1_indexOfChar_4cfef 28 = .ok (.goto (-21), 3) := by decide +kernel
theorem dJ1_indexOfChar_4cfef_31 : decode cJ1_indexOfChar_4cfef 31 = .ok (.iconst (-1), 1) := by decide +kernel
theorem dJ1_indexOfChar_4cfef_32 : decode cJ1_indexOfChar_4cfef 32 = .ok (.ireturn, 1) := by decide +kernel
theorem dJ2_getChar_3b067_0 : decode cJ2_getChar_3b067 0 = .ok (.getstatic 44, 3) := by decide +kernel
theorem dJ2_getChar_3b067_3 : decode cJ2_getChar_3b067 3 = .ok (.ifCond .ne 25, 3) := by decide +kernel
theorem dJ2_getChar_3b067_6 : decode cJ2_getChar_3b067 6 = .ok (.iload_n 1, 1) := by decide +kernel
theorem dJ2_getChar_3b067_7 : decode cJ2_getChar_3b067 7 = .ok (.ifCond .lt 11, 3) := by decide +kernel
theorem dJ2_getChar_3b067_10 : decode cJ2_getChar_3b067 10 = .ok (.iload_n 1, 1) := by decide +kernel
theorem dJ2_getChar_3b067_11 : decode cJ2_getChar_3b067 11 = .ok (.aload_n 0, 1) := by decide +kernel
theorem dJ2_getChar_3b067_12 : decode cJ2_getChar_3b067 12 = .ok (.invokestatic 48, 3) := by decide +kernel
theorem dJ2_getChar_3b067_15 : decode cJ2_getChar_3b067 15 = .ok (.if_icmp .lt 13, 3) := by decide +kernel
theorem dJ2_getChar_3b067_18 : decode cJ2_getChar_3b067 18 = .ok (.new 52, 3) := by decide +kernel
theorem dJ2_getChar_3b067_21 : decode cJ2_getChar_3b067 21 = .ok (.dup, 1) := by decide +kernel
theorem dJ2_getChar_3b067_22 : decode cJ2_getChar_3b067 22 = .ok (.ldc 54, 2) := by decide +kernel
theorem dJ2_getChar_3b067_24 : decode cJ2_getChar_3b067 24 = .ok (.invokespecial 56, 3) := by decide +kernel
theorem dJ2_getChar_3b067_27 : decode cJ2_getChar_3b067 27 = .ok (.athrow, 1) := by decide +kernel
theorem dJ2_getChar_3b067_28 : decode cJ2_getChar_3b067 28 = .ok (.iload_n 1, 1) := by decide +kernel
theorem dJ2_getChar_3b067_29 : decode cJ2_getChar_3b067 29 = .ok (.iconst 1, 1) := by decide +kernel
theorem dJ2_getChar_3b067_30 : decode cJ2_getChar_3b067 30 = .ok (.ishl, 1) := by decide +kernel
theorem dJ2_getChar_3b067_31 : decode cJ2_getChar_3b067 31 = .ok (.istore_n 1, 1) := by decide +kernel
theorem dJ2_getChar_3b067_32 : decode cJ2_getChar_3b067 32 = .ok (.aload_n 0, 1) := by decide +kernel
theorem dJ2_getChar_3b067_33 : decode cJ2_getChar_3b067 33 = .ok (.iload_n 1, 1) := by decide +kernel
theorem dJ2_getChar_3b067_34 : decode cJ2_getChar_3b067 34 = .ok (.iinc 1 1, 3) := by decide +kernel
theorem dJ2_getChar_3b067_37 : decode cJ2_getChar_3b067 37 = .ok (.baload, 1) := by decide +kernel
theorem dJ2_getChar_3b067_38 : decode cJ2_getChar_3b067 38 = .ok (.sipush 255, 3) := by decide +kernel
theorem dJ2_getChar_3b067_41 : decode cJ2_getChar_3b067 41 = .ok (.iand, 1) := by decide +kernel
theorem dJ2_getChar_3b067_42 : decode cJ2_getChar_3b067 42 = .ok (.getstatic 59, 3) := by decide +kernel
theorem dJ2_getChar_3b067_45 : decode cJ2_getChar_3b067 45 = .ok (.ishl, 1) := by decide +kernel
theorem dJ2_getChar_3b067_46 : decode cJ2_getChar_3b067 46 = .ok (.aload_n 0, 1) := by decide +kernel
theorem dJ2_getChar_3b067_47 : decode cJ2_getChar_3b067 47 = .ok (.iload_n 1, 1) := by decide +kernel
theorem dJ2_getChar_3b067_48 : decode cJ2_getChar_3b067 48 = .ok (.baload, 1) := by decide +kernel
theorem dJ2_getChar_3b067_49 : decode cJ2_getChar_3b067 49 = .ok (.sipush 255, 3) := by decide +kernel
theorem dJ2_getChar_3b067_52 : decode cJ2_getChar_3b067 52 = .ok (.iand, 1) := by decide +kernel
theorem dJ2_getChar_3b067_53 : decode cJ2_getChar_3b067 53 = .ok (.getstatic 63, 3) := by decide +kernel
theorem dJ2_getChar_3b067_56 : decode cJ2_getChar_3b067 56 = .ok (.ishl, 1) := by decide +kernel
theorem dJ2_getChar_3b067_57 : decode cJ2_getChar_3b067 57 = .ok (.ior, 1) := by decide +kernel
theorem dJ2_getChar_3b067_58 : decode cJ2_getChar_3b067 58 = .ok (.i2c, 1) := by decide +kernel
theorem dJ2_getChar_3b067_59 : decode cJ2_getChar_3b067 59 = .ok (.ireturn, 1) := by decide +kernel
theorem dJ2_length_9d52b_0 : decode cJ2_length_9d52b 0 = .ok (.aload_n 0, 1) := by decide +kernel
theorem dJ2_length_9d52b_1 : decode cJ2_length_9d52b 1 = .ok (.arraylength, 1) := by decide +kernel
theorem dJ2_length_9d52b_2 : decode cJ2_length_9d52b 2 = .ok (.iconst 1, 1) := by decide +kernel
theorem dJ2_length_9d52b_3 : decode cJ2_length_9d52b 3 = .ok (.ishr, 1) := by decide +kernel
theorem dJ2_length_9d52b_4 : decode cJ2_length_9d52b 4 = .ok (.ireturn, 1) := by decide +kernel
theorem dJ2_indexOf_4cfef_0 : decode cJ2_indexOf_4cfef 0 = .ok (.iload_n 2, 1) := by decide +kernel
theorem dJ2_indexOf_4cfef_1 : decode cJ2_indexOf_4cfef 1 = .ok (.iconst 0, 1) := by decide +kernel
theorem dJ2_indexOf_4cfef_2 : decode cJ2_indexOf_4cfef 2 = .ok (.invokestatic 224, 3) := by decide +kernel
theorem dJ2_indexOf_4cfef_5 : decode cJ2_indexOf_4cfef 5 = .ok (.istore_n 2, 1) := by decide +kernel
theorem dJ2_indexOf_4cfef_6 : decode cJ2_indexOf_4cfef 6 = .ok (.iload_n 3, 1) := by decide +kernel
theorem dJ2_indexOf_4cfef_7 : decode cJ2_indexOf_4cfef 7 = .ok (.aload_n 0, 1) := by decide +kernel
theorem dJ2_indexOf_4cfef_8 : decode cJ2_indexOf_4cfef 8 = .ok (.arraylength, 1) := by decide +kernel
theorem dJ2_indexOf_4cfef_9 : decode cJ2_indexOf_4cfef 9 = .ok (.iconst 1, 1) := by decide +kernel
theorem dJ2_indexOf_4cfef_10 : decode cJ2_indexOf_4cfef 10 = .ok (.ishr, 1) := by decide +kernel
theorem dJ2_indexOf_4cfef_11 : decode cJ2_indexOf_4cfef 11 = .ok (.invokestatic 183, 3) := by decide +kernel
theorem dJ2_indexOf_4cfef_14 : decode cJ2_indexOf_4cfef 14 = .ok (.istore_n 3, 1) := by decide +kernel
theorem dJ2_indexOf_4cfef_15 : decode cJ2_indexOf_4cfef 15 = .ok (.iload_n 2, 1) := by decide +kernel
theorem dJ2_indexOf_4cfef_16 : decode cJ2_indexOf_4cfef 16 = .ok (.iload_n 3, 1) := by decide +kernel
theorem dJ2_indexOf_4cfef_17 : decode cJ2_indexOf_4cfef 17 = .ok (.if_icmp .lt 5, 3) := by decide +kernel
theorem dJ2_indexOf_4cfef_20 : decode cJ2_indexOf_4cfef 20 = .ok (.iconst (-1), 1) := by decide +kernel
theorem dJ2_indexOf_4cfef_21 : decode cJ2_indexOf_4cfef 21 = .ok (.ireturn, 1) := by decide +kernel
theorem dJ2_indexOf_4cfef_22 : decode cJ2_indexOf_4cfef 22 = .ok (.iload_n 1, 1) := by decide +kernel
theorem dJ2_indexOf_4cfef_23 : decode cJ2_indexOf_4cfef 23 = .ok (.ldc 227, 2) := by decide +kernel
theorem dJ2_indexOf_4cfef_25 : decode cJ2_indexOf_4cfef 25 = .ok (.if_icmp .ge 11, 3) := by decide +kernel
theorem dJ2_indexOf_4cfef_28 : decode cJ2_indexOf_4cfef 28 = .ok (.aload_n 0, 1) := by decide +kernel
theorem dJ2_indexOf_4cfef_29 : decode cJ2_indexOf_4cfef 29 = .ok (.iload_n 1, 1) := by decide +kernel
theorem dJ2_indexOf_4cfef_30 : decode cJ2_indexOf_4cfef 30 = .ok (.iload_n 2, 1) := by decide +kernel
theorem dJ2_indexOf_4cfef_31 : decode cJ2_indexOf_4cfef 31 = .ok (.iload_n 3, 1) := by decide +kernel
theorem dJ2_indexOf_4cfef_32 : decode cJ2_indexOf_4cfef 32 = .ok (.invokestatic 228, 3) := by decide +kernel
theorem dJ2_indexOf_4cfef_35 : decode cJ2_indexOf_4cfef 35 = .ok (.ireturn, 1) := by decide +kernel
theorem dJ2_indexOf_4cfef_36 : decode cJ2_indexOf_4cfef 36 = .ok (.aload_n 0, 1) := by decide +kernel
theorem dJ2_indexOf_4cfef_37 : decode cJ2_indexOf_4cfef 37 = .ok (.iload_n 1, 1) := by decide +kernel
theorem dJ2_indexOf_4cfef_38 : decode cJ2_indexOf_4cfef 38 = .ok (.iload_n 2, 1) := by decide +kernel
theorem dJ2_indexOf_4cfef_39 : decode cJ2_indexOf_4cfef 39 = .ok (.iload_n 3, 1) := by decide +kernel
theorem dJ2_indexOf_4cfef_40 : decode cJ2_indexOf_4cfef 40 = .ok (.invokestatic 232, 3) := by decide +kernel
theorem dJ2_indexOf_4cfef_43 : decode cJ2_indexOf_4cfef 43 = .ok (.ireturn, 1) := by decide +kernel
theorem dJ2_indexOfChar_4cfef_0 : decode cJ2_indexOfChar_4cfef 0 = .ok (.iload_n 2, 1) := by decide +kernel
theorem dJ2_indexOfChar_4cfef_1 : decode cJ2_indexOfChar_4cfef 1 = .ok (.iload_n 3, 1) := by decide +kernel
theorem dJ2_indexOfChar_4cfef_2 : decode cJ2_indexOfChar_4cfef 2 = .ok (.aload_n 0, 1) := by decide +kernel
theorem dJ2_indexOfChar_4cfef_3 : decode cJ2_indexOfChar_4cfef 3 = .ok (.invokestatic 96, 3) := by decide +kernel
theorem dJ2_indexOfChar_4cfef_6 : decode cJ2_indexOfChar_4cfef 6 = .ok (.aload_n 0, 1) := by decide +kernel
theorem dJ2_indexOfChar_4cfef_7 : decode cJ2_indexOfChar_4cfef 7 = .ok (.iload_n 1, 1) := by decide +kernel
theorem dJ2_indexOfChar_4cfef_8 : decode cJ2_indexOfChar_4cfef 8 = .ok (.iload_n 2, 1) := by decide +kernel
theorem dJ2_indexOfChar_4cfef_9 : decode cJ2_indexOfChar_4cfef 9 = .ok (.iload_n 3, 1) := by decide +kernel
theorem dJ2_indexOfChar_4cfef_10 : decode cJ2_indexOfChar_4cfef 10 = .ok (.invokestatic 244, 3) := by decide +kernel
theorem dJ2_indexOfChar_4cfef_13 : decode cJ2_indexOfChar_4cfef 13 = .ok (.ireturn, 1) := by decide +kernel
theorem dJ2_indexOfCharUnsafe_4cfef_0 : decode cJ2_indexOfCharUnsafe_4cfef 0 = .ok (.iload_n 2, 1) := by decide +kernel
theorem dJ2_indexOfCharUnsafe_4cfef_1 : decode cJ2_indexOfCharUnsafe_4cfef 1 = .ok (.istore 4, 2) := by decide +kernel
theorem dJ2_indexOfCharUnsafe_4cfef_3 : decode cJ2_indexOfCharUnsafe_4cfef 3 = .ok (.iload 4, 2) := by decide +kernel
theorem dJ2_indexOfCharUnsafe_4cfef_5 : decode cJ2_indexOfCharUnsafe_4cfef 5 = .ok (.iload_n 3, 1) := by decide +kernel
theorem dJ2_indexOfCharUnsafe_4cfef_6 : decode cJ2_indexOfCharUnsafe_4cfef 6 = .ok (.if_icmp .ge 22, 3) := by decide +kernel
theorem dJ2_indexOfCharUnsafe_4cfef_9 : decode cJ2_indexOfCharUnsafe_4cfef 9 = .ok (.aload_n 0, 1) := by decide +kernel
theorem dJ2_indexOfCharUnsafe_4cfef_10 : decode cJ2_indexOfCharUnsafe_4cfef 10 = .ok (.iload 4, 2) := by decide +kernel
theorem dJ2_indexOfCharUnsafe_4cfef_12 : decode cJ2_indexOfCharUnsafe_4cfef 12 = .ok (.invokestatic 71, 3) := by decide +kernel
theorem dJ2_indexOfCharUnsafe_4cfef_15 : decode cJ2_indexOfCharUnsafe_4cfef 15 = .ok (.iload_n 1, 1) := by decide +kernel
theorem dJ2_indexOfCharUnsafe_4cfef_16 : decode cJ2_indexOfCharUnsafe_4cfef 16 = .ok (.if_icmp .ne 6, 3) := by decide +kernel
theorem dJ2_indexOfCharUnsafe_4cfef_19 : decode cJ2_indexOfCharUnsafe_4cfef 19 = .ok (.iload 4, 2) := by decide +kernel
theorem dJ2_indexOfCharUnsafe_4cfef_21 : decode cJ2_indexOfCharUnsafe_4cfef 21 = .ok (.ireturn, 1) := by decide +kernel
theorem dJ2_indexOfCharUnsafe_4cfef_22 : decode cJ2_indexOfCharUnsafe_4cfef 22 = .ok (.iinc 4 1, 3) := by decide +kernel
theorem dJ2_indexOfCharUnsafe_4cfef_25 : decode cJ2_indexOfCharUnsafe_4cfef 25 = .ok (.goto (-22), 3) := by decide +kernel
theorem dJ2_indexOfCharUnsafe_4cfef_28 : decode cJ2_indexOfCharUnsafe_4cfef 28 = .ok (.iconst (-1), 1) := by decide +kernel
theorem dJ2_indexOfCharUnsafe_4cfef_29 : decode cJ2_indexOfCharUnsafe_4cfef 29 = .ok (.ireturn, 1) := by decide +kernel
theorem dJ2_indexOfSupplementary_4cfef_0 : decode cJ2_indexOfSupplementary_4cfef 0 = .ok (.iload_n 1, 1) := by decide +kernel
theorem dJ2_indexOfSupplementary_4cfef_1 : decode cJ2_indexOfSupplementary_4cfef 1 = .ok (.invokestatic 164, 3) := by decide +kernel
theorem dJ2_indexOfSupplementary_4cfef_4 : decode cJ2_indexOfSupplementary_4cfef 4 = .ok (.ifCond .eq 65, 3) := by decide +kernel
theorem dJ2_indexOfSupplementary_4cfef_7 : decode cJ2_indexOfSupplementary_4cfef 7 = .ok (.iload_n 1, 1) := by decide +kernel
theorem dJ2_indexOfSupplementary_4cfef_8 : decode cJ2_indexOfSupplementary_4cfef 8 = .ok (.invokestatic 157, 3) := by decide +kernel
theorem dJ2_indexOfSupplementary_4cfef_11 : decode cJ2_indexOfSupplementary_4cfef 11 = .ok (.istore 4, 2) := by decide +kernel
theorem dJ2_indexOfSupplementary_4cfef_13 : decode cJ2_indexOfSupplementary_4cfef 13 = .ok (.iload_n 1, 1) := by decide +kernel
theorem dJ2_indexOfSupplementary_4cfef_14 : decode cJ2_indexOfSupplementary_4cfef 14 = .ok (.invokestatic 161, 3) := by decide +kernel
theorem dJ2_indexOfSupplementary_4cfef_17 : decode cJ2_indexOfSupplementary_4cfef 17 = .ok (.istore 5, 2) := by decide +kernel
theorem dJ2_indexOfSupplementary_4cfef_19 : decode cJ2_indexOfSupplementary_4cfef 19 = .ok (.iload_n 2, 1) := by decide +kernel
theorem dJ2_indexOfSupplementary_4cfef_20 : decode cJ2_indexOfSupplementary_4cfef 20 = .ok (.iload_n 3, 1) := by decide +kernel
theorem dJ2_indexOfSupplementary_4cfef_21 : decode cJ2_indexOfSupplementary_4cfef 21 = .ok (.aload_n 0, 1) := by decide +kernel
theorem dJ2_indexOfSupplementary_4cfef_22 : decode cJ2_indexOfSupplementary_4cfef 22 = .ok (.invokestatic 96, 3) := by decide +kernel
theorem dJ2_indexOfSupplementary_4cfef_25 : decode cJ2_indexOfSupplementary_4cfef 25 = .ok (.iload_n 2, 1) := by decide +kernel
theorem dJ2_indexOfSupplementary_4cfef_26 : decode cJ2_indexOfSupplementary_4cfef 26 = .ok (.istore 6, 2) := by decide +kernel
theorem dJ2_indexOfSupplementary_4cfef_28 : decode cJ2_indexOfSupplementary_4cfef 28 = .ok (.iload 6, 2) := by decide +kernel
theorem dJ2_indexOfSupplementary_4cfef_30 : decode cJ2_indexOfSupplementary_4cfef 30 = .ok (.iload_n 3, 1) := by decide +kernel
theorem dJ2_indexOfSupplementary_4cfef_31 : decode cJ2_indexOfSupplementary_4cfef 31 = .ok (.iconst 1, 1) := by decide +kernel
theorem dJ2_indexOfSupplementary_4cfef_32 : decode cJ2_indexOfSupplementary_4cfef 32 = .ok (.isub, 1) := by decide +kernel
theorem dJ2_indexOfSupplementary_4cfef_33 : decode cJ2_indexOfSupplementary_4cfef 33 = .ok (.if_icmp .ge 36, 3) := by decide +kernel
theorem dJ2_indexOfSupplementary_4cfef_36 : decode cJ2_indexOfSupplementary_4cfef 36 = .ok (.aload_n 0, 1) := by decide +kernel
theorem dJ2_indexOfSupplementary_4cfef_37 : decode cJ2_indexOfSupplementary_4cfef 37 = .ok (.iload 6, 2) := by decide +kernel
theorem dJ2_indexOfSupplementary_4cfef_39 : decode cJ2_indexOfSupplementary_4cfef 39 = .ok (.invokestatic 71, 3) := by decide +kernel
theorem dJ2_indexOfSupplementary_4cfef_42 : decode cJ2_indexOfSupplementary_4cfef 42 = .ok (.iload 4, 2) := by decide +kernel
theorem dJ2_indexOfSupplementary_4cfef_44 : decode cJ2_indexOfSupplementary_4cfef 44 = .ok (.if_icmp .ne 19, 3) := by decide +kernel
theorem dJ2_indexOfSupplementary_4cfef_47 : decode cJ2_indexOfSupplementary_4cfef 47 = .ok (.aload_n 0, 1) := by decide +kernel
theorem dJ2_indexOfSupplementary_4cfef_48 : decode cJ2_indexOfSupplementary_4cfef 48 = .ok (.iload 6, 2) := by decide +kernel
theorem dJ2_indexOfSupplementary_4cfef_50 : decode cJ2_indexOfSupplementary_4cfef 50 = .ok (.iconst 1, 1) := by decide +kernel
theorem dJ2_indexOfSupplementary_4cfef_51 : decode cJ2_indexOfSupplementary_4cfef 51 = .ok (.iadd, 1) := by decide +kernel
theorem dJ2_indexOfSupplementary_4cfef_52 : decode cJ2_indexOfSupplementary_4cfef 52 = .ok (.invokestatic 71, 3) := by decide +kernel
theorem dJ2_indexOfSupplementary_4cfef_55 : decode cJ2_indexOfSupplementary_4cfef 55 = .ok (.iload 5, 2) := by decide +kernel
theorem dJ2_indexOfSupplementary_4cfef_57 : decode cJ2_indexOfSupplementary_4cfef 57 = .ok (.if_icmp .ne 6, 3) := by decide +kernel
theorem dJ2_indexOfSupplementary_4cfef_60 : decode cJ2_indexOfSupplementary_4cfef 60 = .ok (.iload 6, 2) := by decide +kernel
theorem dJ2_indexOfSupplementary_4cfef_62 : decode cJ2_indexOfSupplementary_4cfef 62 = .ok (.ireturn, 1) := by decide +kernel
theorem dJ2_indexOfSupplementary_4cfef_63 : decode cJ2_indexOfSupplementary_4cfef 63 = .ok (.iinc 6 1, 3) := by decide +kernel
theorem dJ2_indexOfSupplementary_4cfef_66 : decode cJ2_indexOfSupplementary_4cfef 66 = .ok (.goto (-38), 3) := by decide +kernel
theorem dJ2_indexOfSupplementary_4cfef_69 : decode cJ2_indexOfSupplementary_4cfef 69 = .ok (.iconst (-1), 1) := by decide +kernel
theorem dJ2_indexOfSupplementary_4cfef_70 : decode cJ2_indexOfSupplementary_4cfef 70 = .ok (.ireturn, 1) := by decide +kernel
theorem dJ2_charAt_3b067_0 : decode cJ2_charAt_3b067 0 = .ok (.iload_n 1, 1) := by decide +kernel
theorem dJ2_charAt_3b067_1 : decode cJ2_charAt_3b067 1 = .ok (.aload_n 0, 1) := by decide +kernel
theorem dJ2_charAt_3b067_2 : decode cJ2_charAt_3b067 2 = .ok (.invokestatic 67, 3) := by decide +kernel
theorem dJ2_charAt_3b067_5 : decode cJ2_charAt_3b067 5 = .ok (.aload_n 0, 1) := by decide +kernel
theorem dJ2_charAt_3b067_6 : decode cJ2_charAt_3b067 6 = .ok (.iload_n 1, 1) := by decide +kernel
theorem dJ2_charAt_3b067_7 : decode cJ2_charAt_3b067 7 = .ok (.invokestatic 71, 3) := by decide +kernel
theorem dJ2_charAt_3b067_10 : decode cJ2_charAt_3b067 10 = .ok (.ireturn, 1) := by decide +kernel
theorem dJ2_checkIndex_2214a_0 : decode cJ2_checkIndex_2214a 0 = .ok (.iload_n 0, 1) := by decide +kernel
theorem dJ2_checkIndex_2214a_1 : decode cJ2_checkIndex_2214a 1 = .ok (.aload_n 1, 1) := by decide +kernel
theorem dJ2_checkIndex_2214a_2 : decode cJ2_checkIndex_2214a 2 = .ok (.invokestatic 48, 3) := by decide +kernel
theorem dJ2_checkIndex_2214a_5 : decode cJ2_checkIndex_2214a 5 = .ok (.invokestatic 414, 3) := by decide +kernel
theorem dJ2_checkIndex_2214a_8 : decode cJ2_checkIndex_2214a 8 = .ok (.return_, 1) := by decide +kernel
theorem dJ2_checkBoundsBeginEnd_d044e_0 : decode cJ2_checkBoundsBeginEnd_d044e 0 = .ok (.iload_n 0, 1) := by decide +kernel
theorem dJ2_checkBoundsBeginEnd_d044e_1 : decode cJ2_checkBoundsBeginEnd_d044e 1 = .ok (.iload_n 1, 1) := by decide +kernel
theorem dJ2_checkBoundsBeginEnd_d044e_2 : decode cJ2_checkBoundsBeginEnd_d044e 2 = .ok (.aload_n 2, 1) := by decide +kernel
theorem dJ2_checkBoundsBeginEnd_d044e_3 : decode cJ2_checkBoundsBeginEnd_d044e 3 = .ok (.invokestatic 48, 3) := by decide +kernel
theorem dJ2_checkBoundsBeginEnd_d044e_6 : decode cJ2_checkBoundsBeginEnd_d044e 6 = .ok (.invokestatic 241, 3) := by decide +kernel
theorem dJ2_checkBoundsBeginEnd_d044e_9 : decode cJ2_checkBoundsBeginEnd_d044e 9 = .ok (.return_, 1) := by decide +kernel
theorem dJ3_checkIndex_8e157_0 : decode cJ3_checkIndex_8e157 0 = .ok (.iload_n 0, 1) := by decide +kernel
theorem dJ3_checkIndex_8e157_1 : decode cJ3_checkIndex_8e157 1 = .ok (.ifCond .lt 8, 3) := by decide +kernel
theorem dJ3_checkIndex_8e157_4 : decode cJ3_checkIndex_8e157 4 = .ok (.iload_n 0, 1) := by decide +kernel
theorem dJ3_checkIndex_8e157_5 : decode cJ3_checkIndex_8e157 5 = .ok (.iload_n 1, 1) := by decide +kernel
theorem dJ3_checkIndex_8e157_6 : decode cJ3_checkIndex_8e157 6 = .ok (.if_icmp .lt 10, 3) := by decide +kernel
theorem dJ3_checkIndex_8e157_9 : decode cJ3_checkIndex_8e157 9 = .ok (.aload_n 2, 1) := by decide +kernel
theorem dJ3_checkIndex_8e157_10 : decode cJ3_checkIndex_8e157 10 = .ok (.iload_n 0, 1) := by decide +kernel
theorem dJ3_checkIndex_8e157_11 : decode cJ3_checkIndex_8e157 11 = .ok (.iload_n 1, 1) := by decide +kernel
theorem dJ3_checkIndex_8e157_12 : decode cJ3_checkIndex_8e157 12 = .ok (.invokestatic 95, 3) := by decide +kernel
theorem dJ3_checkIndex_8e157_15 : decode cJ3_checkIndex_8e157 15 = .ok (.athrow, 1) := by decide +kernel
theorem dJ3_checkIndex_8e157_16 : decode cJ3_checkIndex_8e157 16 = .ok (.iload_n 0, 1) := by decide +kernel
theorem dJ3_checkIndex_8e157_17 : decode cJ3_checkIndex_8e157 17 = .ok (.ireturn, 1) := by decide +kernel
theorem dJ3_checkFromToIndex_8c36e_0 : decode cJ3_checkFromToIndex_8c36e 0 = .ok (.iload_n 0, 1) := by decide +kernel
theorem dJ3_checkFromToIndex_8c36e_1 : decode cJ3_checkFromToIndex_8c36e 1 = .ok (.ifCond .lt 13, 3) := by decide +kernel
theorem dJ3_checkFromToIndex_8c36e_4 : decode cJ3_checkFromToIndex_8c36e 4 = .ok (.iload_n 0, 1) := by decide +kernel
theorem dJ3_checkFromToIndex_8c36e_5 : decode cJ3_checkFromToIndex_8c36e 5 = .ok (.iload_n 1, 1) := by decide +kernel
theorem dJ3_checkFromToIndex_8c36e_6 : decode cJ3_checkFromToIndex_8c36e 6 = .ok (.if_icmp .gt 8, 3) := by decide +kernel
theorem dJ3_checkFromToIndex_8c36e_9 : decode cJ3_checkFromToIndex_8c36e 9 = .ok (.iload_n 1, 1) := by decide +kernel
theorem dJ3_checkFromToIndex_8c36e_10 : decode cJ3_checkFromToIndex_8c36e 10 = .ok (.iload_n 2, 1) := by decide +kernel
theorem dJ3_checkFromToIndex_8c36e_11 : decode cJ3_checkFromToIndex_8c36e 11 = .ok (.if_icmp .le 11, 3) := by decide +kernel
theorem dJ3_checkFromToIndex_8c36e_14 : decode cJ3_checkFromToIndex_8c36e 14 = .ok (.aload_n 3, 1) := by decide +kernel
theorem dJ3_checkFromToIndex_8c36e_15 : decode cJ3_checkFromToIndex_8c36e 15 = .ok (.iload_n 0, 1) := by decide +kernel
theorem dJ3_checkFromToIndex_8c36e_16 : decode cJ3_checkFromToIndex_8c36e 16 = .ok (.iload_n 1, 1) := by decide +kernel
theorem dJ3_checkFromToIndex_8c36e_17 : decode cJ3_checkFromToIndex_8c36e 17 = .ok (.iload_n 2, 1) := by decide +kernel
theorem dJ3_checkFromToIndex_8c36e_18 : decode cJ3_checkFromToIndex_8c36e 18 = .ok (.invokestatic 99, 3) := by decide +kernel
theorem dJ3_checkFromToIndex_8c36e_21 : decode cJ3_checkFromToIndex_8c36e 21 = .ok (.athrow, 1) := by decide +kernel
theorem dJ3_checkFromToIndex_8c36e_22 : decode cJ3_checkFromToIndex_8c36e 22 = .ok (.iload_n 0, 1) := by decide +kernel
theorem dJ3_checkFromToIndex_8c36e_23 : decode cJ3_checkFromToIndex_8c36e 23 = .ok (.ireturn, 1) := by decide +kernel
theorem dL_law_0 : decode cL_law 0 = .ok (.new 7, 3) := by decide +kernel
theorem dL_law_3 : decode cL_law 3 = .ok (.dup, 1) := by decide +kernel
theorem dL_law_4 : decode cL_law 4 = .ok (.invokespecial 9, 3) := by decide +kernel
theorem dL_law_7 : decode cL_law 7 = .ok (.astore_n 1, 1) := by decide +kernel
theorem dL_law_8 : decode cL_law 8 = .ok (.new 10, 3) := by decide +kernel
theorem dL_law_11 : decode cL_law 11 = .ok (.dup, 1) := by decide +kernel
theorem dL_law_12 : decode cL_law 12 = .ok (.invokespecial 12, 3) := by decide +kernel
theorem dL_law_15 : decode cL_law 15 = .ok (.astore_n 2, 1) := by decide +kernel
theorem dL_law_16 : decode cL_law 16 = .ok (.iconst 0, 1) := by decide +kernel
theorem dL_law_17 : decode cL_law 17 = .ok (.istore_n 3, 1) := by decide +kernel
theorem dL_law_18 : decode cL_law 18 = .ok (.iload_n 3, 1) := by decide +kernel
theorem dL_law_19 : decode cL_law 19 = .ok (.aload_n 0, 1) := by decide +kernel
theorem dL_law_20 : decode cL_law 20 = .ok (.arraylength, 1) := by decide +kernel
theorem dL_law_21 : decode cL_law 21 = .ok (.bipush 6, 2) := by decide +kernel
theorem dL_law_23 : decode cL_law 23 = .ok (.isub, 1) := by decide +kernel
theorem dL_law_24 : decode cL_law 24 = .ok (.if_icmp .gt 1493, 3) := by decide +kernel
theorem dL_law_27 : decode cL_law 27 = .ok (.aload_n 0, 1) := by decide +kernel
theorem dL_law_28 : decode cL_law 28 = .ok (.iload_n 3, 1) := by decide +kernel
theorem dL_law_29 : decode cL_law 29 = .ok (.iaload, 1) := by decide +kernel
theorem dL_law_30 : decode cL_law 30 = .ok (.bipush 63, 2) := by decide +kernel
theorem dL_law_32 : decode cL_law 32 = .ok (.iand, 1) := by decide +kernel
theorem dL_law_33 : decode cL_law 33 = .ok (.tableswitch 1478 0 42 #[187, 210, 243, 266, 309, 352, 395, 418, 481, 504, 527, 550, 583, 616, 649, 682, 715, 738, 761, 794, 807, 840, 853, 886, 919, 952, 975, 1008, 1031, 1064, 1087, 1110, 1133, 1156, 1189, 1212, 1235, 1294, 1317, 1360, 1403, 1416, 1455], 187) := by decide +kernel
theorem dL_law_220 : decode cL_law 220 = .ok (.aload_n 1, 1) := by decide +kernel
theorem dL_law_221 : decode cL_law 221 = .ok (.aload_n 0, 1) := by decide +kernel
theorem dL_law_222 : decode cL_law 222 = .ok (.iload_n 3, 1) := by decide +kernel
theorem dL_law_223 : decode cL_law 223 = .ok (.iconst 1, 1) := by decide +kernel
theorem dL_law_224 : decode cL_law 224 = .ok (.iadd, 1) := by decide +kernel
theorem dL_law_225 : decode cL_law 225 = .ok (.iaload, 1) := by decide +kernel
theorem dL_law_226 : decode cL_law 226 = .ok (.invokevirtual 13, 3) := by decide +kernel
theorem dL_law_229 : decode cL_law 229 = .ok (.aload_n 2, 1) := by decide +kernel
theorem dL_law_230 : decode cL_law 230 = .ok (.aload_n 0, 1) := by decide +kernel
theorem dL_law_231 : decode cL_law 231 = .ok (.iload_n 3, 1) := by decide +kernel
theorem dL_law_232 : decode cL_law 232 = .ok (.iconst 1, 1) := by decide +kernel
theorem dL_law_233 : decode cL_law 233 = .ok (.iadd, 1) := by decide +kernel
theorem dL_law_234 : decode cL_law 234 = .ok (.iaload, 1) := by decide +kernel
theorem dL_law_235 : decode cL_law 235 = .ok (.invokevirtual 17, 3) := by decide +kernel
theorem dL_law_238 : decode cL_law 238 = .ok (.if_icmp .eq 1273, 3) := by decide +kernel
theorem dL_law_241 : decode cL_law 241 = .ok (.iconst 0, 1) := by decide +kernel
theorem dL_law_242 : decode cL_law 242 = .ok (.ireturn, 1) := by decide +kernel
theorem dL_law_243 : decode cL_law 243 = .ok (.aload_n 1, 1) := by decide +kernel
theorem dL_law_244 : decode cL_law 244 = .ok (.aload_n 0, 1) := by decide +kernel
theorem dL_law_245 : decode cL_law 245 = .ok (.iload_n 3, 1) := by decide +kernel
theorem dL_law_246 : decode cL_law 246 = .ok (.iconst 1, 1) := by decide +kernel
theorem dL_law_247 : decode cL_law 247 = .ok (.iadd, 1) := by decide +kernel
theorem dL_law_248 : decode cL_law 248 = .ok (.iaload, 1) := by decide +kernel
theorem dL_law_249 : decode cL_law 249 = .ok (.aload_n 0, 1) := by decide +kernel
theorem dL_law_250 : decode cL_law 250 = .ok (.iload_n 3, 1) := by decide +kernel
theorem dL_law_251 : decode cL_law 251 = .ok (.iconst 2, 1) := by decide +kernel
theorem dL_law_252 : decode cL_law 252 = .ok (.iadd, 1) := by decide +kernel
theorem dL_law_253 : decode cL_law 253 = .ok (.iaload, 1) := by decide +kernel
theorem dL_law_254 : decode cL_law 254 = .ok (.invokevirtual 18, 3) := by decide +kernel
theorem dL_law_257 : decode cL_law 257 = .ok (.aload_n 2, 1) := by decide +kernel
theorem dL_law_258 : decode cL_law 258 = .ok (.aload_n 0, 1) := by decide +kernel
theorem dL_law_259 : decode cL_law 259 = .ok (.iload_n 3, 1) := by decide +kernel
theorem dL_law_260 : decode cL_law 260 = .ok (.iconst 1, 1) := by decide +kernel
theorem dL_law_261 : decode cL_law 261 = .ok (.iadd, 1) := by decide +kernel
theorem dL_law_262 : decode cL_law 262 = .ok (.iaload, 1) := by decide +kernel
theorem dL_law_263 : decode cL_law 263 = .ok (.aload_n 0, 1) := by decide +kernel
theorem dL_law_264 : decode cL_law 264 = .ok (.iload_n 3, 1) := by decide +kernel
theorem dL_law_265 : decode cL_law 265 = .ok (.iconst 2, 1) := by decide +kernel
theorem dL_law_266 : decode cL_law 266 = .ok (.iadd, 1) := by decide +kernel
theorem dL_law_267 : decode cL_law 267 = .ok (.iaload, 1) := by decide +kernel
theorem dL_law_268 : decode cL_law 268 = .ok (.invokevirtual 22, 3) := by decide +kernel
theorem dL_law_271 : decode cL_law 271 = .ok (.if_icmp .eq 1240, 3) := by decide +kernel
theorem dL_law_274 : decode cL_law 274 = .ok (.iconst 0, 1) := by decide +kernel
theorem dL_law_275 : decode cL_law 275 = .ok (.ireturn, 1) := by decide +kernel
theorem dL_law_276 : decode cL_law 276 = .ok (.aload_n 1, 1) := by decide +kernel
theorem dL_law_277 : decode cL_law 277 = .ok (.aload_n 0, 1) := by decide +kernel
theorem dL_law_278 : decode cL_law 278 = .ok (.iload_n 3, 1) := by decide +kernel
theorem dL_law_279 : decode cL_law 279 = .ok (.iconst 1, 1) := by decide +kernel
theorem dL_law_280 : decode cL_law 280 = .ok (.iadd, 1) := by decide +kernel
theorem dL_law_281 : decode cL_law 281 = .ok (.iaload, 1) := by decide +kernel
theorem dL_law_282 : decode cL_law 282 = .ok (.invokevirtual 23, 3) := by decide +kernel
theorem dL_law_285 : decode cL_law 285 = .ok (.aload_n 2, 1) := by decide +kernel
theorem dL_law_286 : decode cL_law 286 = .ok (.aload_n 0, 1) := by decide +kernel
theorem dL_law_287 : decode cL_law 287 = .ok (.iload_n 3, 1) := by decide +kernel
theorem dL_law_288 : decode cL_law 288 = .ok (.iconst 1, 1) := by decide +kernel
theorem dL_law_289 : decode cL_law 289 = .ok (.iadd, 1) := by decide +kernel
theorem dL_law_290 : decode cL_law 290 = .ok (.iaload, 1) := by decide +kernel
theorem dL_law_291 : decode cL_law 291 = .ok (.invokevirtual 26, 3) := by decide +kernel
theorem dL_law_294 : decode cL_law 294 = .ok (.if_icmp .eq 1217, 3) := by decide +kernel
theorem dL_law_297 : decode cL_law 297 = .ok (.iconst 0, 1) := by decide +kernel
theorem dL_law_298 : decode cL_law 298 = .ok (.ireturn, 1) := by decide +kernel
theorem dL_law_299 : decode cL_law 299 = .ok (.aload_n 1, 1) := by decide +kernel
theorem dL_law_300 : decode cL_law 300 = .ok (.aload_n 0, 1) := by decide +kernel
theorem dL_law_301 : decode cL_law 301 = .ok (.iload_n 3, 1) := by decide +kernel
theorem dL_law_302 : decode cL_law 302 = .ok (.iconst 1, 1) := by decide +kernel
theorem dL_law_303 : decode cL_law 303 = .ok (.iadd, 1) := by decide +kernel
theorem dL_law_304 : decode cL_law 304 = .ok (.iaload, 1) := by decide +kernel
theorem dL_law_305 : decode cL_law 305 = .ok (.aload_n 0, 1) := by decide +kernel
theorem dL_law_306 : decode cL_law 306 = .ok (.iload_n 3, 1) := by decide +kernel
theorem dL_law_307 : decode cL_law 307 = .ok (.iconst 2, 1) := by decide +kernel
theorem dL_law_308 : decode cL_law 308 = .ok (.iadd, 1) := by decide +kernel
theorem dL_law_309 : decode cL_law 309 = .ok (.iaload, 1) := by decide +kernel
theorem dL_law_310 : decode cL_law 310 = .ok (.aload_n 0, 1) := by decide +kernel
theorem dL_law_311 : decode cL_law 311 = .ok (.iload_n 3, 1) := by decide +kernel
theorem dL_law_312 : decode cL_law 312 = .ok (.iconst 3, 1) := by decide +kernel
theorem dL_law_313 : decode cL_law 313 = .ok (.iadd, 1) := by decide +kernel
theorem dL_law_314 : decode cL_law 314 = .ok (.iaload, 1) := by decide +kernel
theorem dL_law_315 : decode cL_law 315 = .ok (.invokevirtual 27, 3) := by decide +kernel
theorem dL_law_318 : decode cL_law 318 = .ok (.aload_n 2, 1) := by decide +kernel
theorem dL_law_319 : decode cL_law 319 = .ok (.aload_n 0, 1) := by decide +kernel
theorem dL_law_320 : decode cL_law 320 = .ok (.iload_n 3, 1) := by decide +kernel
theorem dL_law_321 : decode cL_law 321 = .ok (.iconst 1, 1) := by decide +kernel
theorem dL_law_322 : decode cL_law 322 = .ok (.iadd, 1) := by decide +kernel
theorem dL_law_323 : decode cL_law 323 = .ok (.iaload, 1) := by decide +kernel
theorem dL_law_324 : decode cL_law 324 = .ok (.aload_n 0, 1) := by decide +kernel
theorem dL_law_325 : decode cL_law 325 = .ok (.iload_n 3, 1) := by decide +kernel
theorem dL_law_326 : decode cL_law 326 = .ok (.iconst 2, 1) := by decide +kernel
theorem dL_law_327 : decode cL_law 327 = .ok (.iadd, 1) := by decide +kernel
theorem dL_law_328 : decode cL_law 328 = .ok (.iaload, 1) := by decide +kernel
theorem dL_law_329 : decode cL_law 329 = .ok (.aload_n 0, 1) := by decide +kernel
theorem dL_law_330 : decode cL_law 330 = .ok (.iload_n 3, 1) := by decide +kernel
theorem dL_law_331 : decode cL_law 331 = .ok (.iconst 3, 1) := by decide +kernel
theorem dL_law_332 : decode cL_law 332 = .ok (.iadd, 1) := by decide +kernel
theorem dL_law_333 : decode cL_law 333 = .ok (.iaload, 1) := by decide +kernel
theorem dL_law_334 : decode cL_law 334 = .ok (.invokevirtual 31, 3) := by decide +kernel
theorem dL_law_337 : decode cL_law 337 = .ok (.if_icmp .eq 1174, 3) := by decide +kernel
theorem dL_law_340 : decode cL_law 340 = .ok (.iconst 0, 1) := by decide +kernel
theorem dL_law_341 : decode cL_law 341 = .ok (.ireturn, 1) := by decide +kernel
theorem dL_law_342 : decode cL_law 342 = .ok (.aload_n 1, 1) := by decide +kernel
theorem dL_law_343 : decode cL_law 343 = .ok (.aload_n 0, 1) := by decide +kernel
theorem dL_law_344 : decode cL_law 344 = .ok (.iload_n 3, 1) := by decide +kernel
theorem dL_law_345 : decode cL_law 345 = .ok (.iconst 1, 1) := by decide +kernel
theorem dL_law_346 : decode cL_law 346 = .ok (.iadd, 1) := by decide +kernel
theorem dL_law_347 : decode cL_law 347 = .ok (.iaload, 1) := by decide +kernel
theorem dL_law_348 : decode cL_law 348 = .ok (.aload_n 0, 1) := by decide +kernel
theorem dL_law_349 : decode cL_law 349 = .ok (.iload_n 3, 1) := by decide +kernel
theorem dL_law_350 : decode cL_law 350 = .ok (.iconst 2, 1) := by decide +kernel
theorem dL_law_351 : decode cL_law 351 = .ok (.iadd, 1) := by decide +kernel
theorem dL_law_352 : decode cL_law 352 = .ok (.iaload, 1) := by decide +kernel
theorem dL_law_353 : decode cL_law 353 = .ok (.aload_n 0, 1) := by decide +kernel
theorem dL_law_354 : decode cL_law 354 = .ok (.iload_n 3, 1) := by decide +kernel
theorem dL_law_355 : decode cL_law 355 = .ok (.iconst 3, 1) := by decide +kernel
theorem dL_law_356 : decode cL_law 356 = .ok (.iadd, 1) := by decide +kernel
theorem dL_law_357 : decode cL_law 357 = .ok (.iaload, 1) := by decide +kernel
theorem dL_law_358 : decode cL_law 358 = .ok (.invokevirtual 32, 3) := by decide +kernel
theorem dL_law_361 : decode cL_law 361 = .ok (.aload_n 2, 1) := by decide +kernel
theorem dL_law_362 : decode cL_law 362 = .ok (.aload_n 0, 1) := by decide +kernel
theorem dL_law_363 : decode cL_law 363 = .ok (.iload_n 3, 1) := by decide +kernel
theorem dL_law_364 : decode cL_law 364 = .ok (.iconst 1, 1) := by decide +kernel
theorem dL_law_365 : decode cL_law 365 = .ok (.iadd, 1) := by decide +kernel
theorem dL_law_366 : decode cL_law 366 = .ok (.iaload, 1) := by decide +kernel
theorem dL_law_367 : decode cL_law 367 = .ok (.aload_n 0, 1) := by decide +kernel
theorem dL_law_368 : decode cL_law 368 = .ok (.iload_n 3, 1) := by decide +kernel
theorem dL_law_369 : decode cL_law 369 = .ok (.iconst 2, 1) := by decide +kernel
theorem dL_law_370 : decode cL_law 370 = .ok (.iadd, 1) := by decide +kernel
theorem dL_law_371 : decode cL_law 371 = .ok (.iaload, 1) := by decide +kernel
theorem dL_law_372 : decode cL_law 372 = .ok (.aload_n 0, 1) := by decide +kernel
theorem dL_law_373 : decode cL_law 373 = .ok (.iload_n 3, 1) := by decide +kernel
theorem dL_law_374 : decode cL_law 374 = .ok (.iconst 3, 1) := by decide +kernel
theorem dL_law_375 : decode cL_law 375 = .ok (.iadd, 1) := by decide +kernel
theorem dL_law_376 : decode cL_law 376 = .ok (.iaload, 1) := by decide +kernel
theorem dL_law_377 : decode cL_law 377 = .ok (.invokevirtual 36, 3) := by decide +kernel
theorem dL_law_380 : decode cL_law 380 = .ok (.if_icmp .eq 1131, 3) := by decide +kernel
theorem dL_law_383 : decode cL_law 383 = .ok (.iconst 0, 1) := by decide +kernel
theorem dL_law_384 : decode cL_law 384 = .ok (.ireturn, 1) := by decide +kernel
theorem dL_law_385 : decode cL_law 385 = .ok (.aload_n 1, 1) := by decide +kernel
theorem dL_law_386 : decode cL_law 386 = .ok (.aload_n 0, 1) := by decide +kernel
theorem dL_law_387 : decode cL_law 387 = .ok (.iload_n 3, 1) := by decide +kernel
theorem dL_law_388 : decode cL_law 388 = .ok (.iconst 1, 1) := by decide +kernel
theorem dL_law_389 : decode cL_law 389 = .ok (.iadd, 1) := by decide +kernel
theorem dL_law_390 : decode cL_law 390 = .ok (.iaload, 1) := by decide +kernel
theorem dL_law_391 : decode cL_law 391 = .ok (.aload_n 0, 1) := by decide +kernel
theorem dL_law_392 : decode cL_law 392 = .ok (.iload_n 3, 1) := by decide +kernel
theorem dL_law_393 : decode cL_law 393 = .ok (.iconst 2, 1) := by decide +kernel
theorem dL_law_394 : decode cL_law 394 = .ok (.iadd, 1) := by decide +kernel
theorem dL_law_395 : decode cL_law 395 = .ok (.iaload, 1) := by decide +kernel
theorem dL_law_396 : decode cL_law 396 = .ok (.aload_n 0, 1) := by decide +kernel
theorem dL_law_397 : decode cL_law 397 = .ok (.iload_n 3, 1) := by decide +kernel
theorem dL_law_398 : decode cL_law 398 = .ok (.iconst 3, 1) := by decide +kernel
theorem dL_law_399 : decode cL_law 399 = .ok (.iadd, 1) := by decide +kernel
theorem dL_law_400 : decode cL_law 400 = .ok (.iaload, 1) := by decide +kernel
theorem dL_law_401 : decode cL_law 401 = .ok (.invokevirtual 37, 3) := by decide +kernel
theorem dL_law_404 : decode cL_law 404 = .ok (.aload_n 2, 1) := by decide +kernel
theorem dL_law_405 : decode cL_law 405 = .ok (.aload_n 0, 1) := by decide +kernel
theorem dL_law_406 : decode cL_law 406 = .ok (.iload_n 3, 1) := by decide +kernel
theorem dL_law_407 : decode cL_law 407 = .ok (.iconst 1, 1) := by decide +kernel
theorem dL_law_408 : decode cL_law 408 = .ok (.iadd, 1) := by decide +kernel
theorem dL_law_409 : decode cL_law 409 = .ok (.iaload, 1) := by decide +kernel
theorem dL_law_410 : decode cL_law 410 = .ok (.aload_n 0, 1) := by decide +kernel
theorem dL_law_411 : decode cL_law 411 = .ok (.iload_n 3, 1) := by decide +kernel
theorem dL_law_412 : decode cL_law 412 = .ok (.iconst 2, 1) := by decide +kernel
theorem dL_law_413 : decode cL_law 413 = .ok (.iadd, 1) := by decide +kernel
theorem dL_law_414 : decode cL_law 414 = .ok (.iaload, 1) := by decide +kernel
theorem dL_law_415 : decode cL_law 415 = .ok (.aload_n 0, 1) := by decide +kernel
theorem dL_law_416 : decode cL_law 416 = .ok (.iload_n 3, 1) := by decide +kernel
theorem dL_law_417 : decode cL_law 417 = .ok (.iconst 3, 1) := by decide +kernel
theorem dL_law_418 : decode cL_law 418 = .ok (.iadd, 1) := by decide +kernel
theorem dL_law_419 : decode cL_law 419 = .ok (.iaload, 1) := by decide +kernel
theorem dL_law_420 : decode cL_law 420 = .ok (.invokevirtual 40, 3) := by decide +kernel
theorem dL_law_423 : decode cL_law 423 = .ok (.if_icmp .eq 1088, 3) := by decide +kernel
theorem dL_law_426 : decode cL_law 426 = .ok (.iconst 0, 1) := by decide +kernel
theorem dL_law_427 : decode cL_law 427 = .ok (.ireturn, 1) := by decide +kernel
theorem dL_law_428 : decode cL_law 428 = .ok (.aload_n 1, 1) := by decide +kernel
theorem dL_law_429 : decode cL_law 429 = .ok (.aload_n 0, 1) := by decide +kernel
theorem dL_law_430 : decode cL_law 430 = .ok (.iload_n 3, 1) := by decide +kernel
theorem dL_law_431 : decode cL_law 431 = .ok (.iconst 1, 1) := by decide +kernel
theorem dL_law_432 : decode cL_law 432 = .ok (.iadd, 1) := by decide +kernel
theorem dL_law_433 : decode cL_law 433 = .ok (.iaload, 1) := by decide +kernel
theorem dL_law_434 : decode cL_law 434 = .ok (.invokevirtual 41, 3) := by decide +kernel
theorem dL_law_437 : decode cL_law 437 = .ok (.aload_n 2, 1) := by decide +kernel
theorem dL_law_438 : decode cL_law 438 = .ok (.aload_n 0, 1) := by decide +kernel
theorem dL_law_439 : decode cL_law 439 = .ok (.iload_n 3, 1) := by decide +kernel
theorem dL_law_440 : decode cL_law 440 = .ok (.iconst 1, 1) := by decide +kernel
theorem dL_law_441 : decode cL_law 441 = .ok (.iadd, 1) := by decide +kernel
theorem dL_law_442 : decode cL_law 442 = .ok (.iaload, 1) := by decide +kernel
theorem dL_law_443 : decode cL_law 443 = .ok (.invokevirtual 44, 3) := by decide +kernel
theorem dL_law_446 : decode cL_law 446 = .ok (.if_icmp .eq 1065, 3) := by decide +kernel
theorem dL_law_449 : decode cL_law 449 = .ok (.iconst 0, 1) := by decide +kernel
theorem dL_law_450 : decode cL_law 450 = .ok (.ireturn, 1) := by decide +kernel
theorem dL_law_451 : decode cL_law 451 = .ok (.aload_n 1, 1) := by decide +kernel
theorem dL_law_452 : decode cL_law 452 = .ok (.aload_n 0, 1) := by decide +kernel
theorem dL_law_453 : decode cL_law 453 = .ok (.iload_n 3, 1) := by decide +kernel
theorem dL_law_454 : decode cL_law 454 = .ok (.iconst 1, 1) := by decide +kernel
theorem dL_law_455 : decode cL_law 455 = .ok (.iadd, 1) := by decide +kernel
theorem dL_law_456 : decode cL_law 456 = .ok (.iaload, 1) := by decide +kernel
theorem dL_law_457 : decode cL_law 457 = .ok (.aload_n 0, 1) := by decide +kernel
theorem dL_law_458 : decode cL_law 458 = .ok (.iload_n 3, 1) := by decide +kernel
theorem dL_law_459 : decode cL_law 459 = .ok (.iconst 2, 1) := by decide +kernel
theorem dL_law_460 : decode cL_law 460 = .ok (.iadd, 1) := by decide +kernel
theorem dL_law_461 : decode cL_law 461 = .ok (.iaload, 1) := by decide +kernel
theorem dL_law_462 : decode cL_law 462 = .ok (.aload_n 0, 1) := by decide +kernel
theorem dL_law_463 : decode cL_law 463 = .ok (.iload_n 3, 1) := by decide +kernel
theorem dL_law_464 : decode cL_law 464 = .ok (.iconst 3, 1) := by decide +kernel
theorem dL_law_465 : decode cL_law 465 = .ok (.iadd, 1) := by decide +kernel
theorem dL_law_466 : decode cL_law 466 = .ok (.iaload, 1) := by decide +kernel
theorem dL_law_467 : decode cL_law 467 = .ok (.aload_n 0, 1) := by decide +kernel
theorem dL_law_468 : decode cL_law 468 = .ok (.iload_n 3, 1) := by decide +kernel
theorem dL_law_469 : decode cL_law 469 = .ok (.iconst 4, 1) := by decide +kernel
theorem dL_law_470 : decode cL_law 470 = .ok (.iadd, 1) := by decide +kernel
theorem dL_law_471 : decode cL_law 471 = .ok (.iaload, 1) := by decide +kernel
theorem dL_law_472 : decode cL_law 472 = .ok (.aload_n 0, 1) := by decide +kernel
theorem dL_law_473 : decode cL_law 473 = .ok (.iload_n 3, 1) := by decide +kernel
theorem dL_law_474 : decode cL_law 474 = .ok (.iconst 5, 1) := by decide +kernel
theorem dL_law_475 : decode cL_law 475 = .ok (.iadd, 1) := by decide +kernel
theorem dL_law_476 : decode cL_law 476 = .ok (.iaload, 1) := by decide +kernel
theorem dL_law_477 : decode cL_law 477 = .ok (.invokevirtual 45, 3) := by decide +kernel
theorem dL_law_480 : decode cL_law 480 = .ok (.aload_n 2, 1) := by decide +kernel
theorem dL_law_481 : decode cL_law 481 = .ok (.aload_n 0, 1) := by decide +kernel
theorem dL_law_482 : decode cL_law 482 = .ok (.iload_n 3, 1) := by decide +kernel
theorem dL_law_483 : decode cL_law 483 = .ok (.iconst 1, 1) := by decide +kernel
theorem dL_law_484 : decode cL_law 484 = .ok (.iadd, 1) := by decide +kernel
theorem dL_law_485 : decode cL_law 485 = .ok (.iaload, 1) := by decide +kernel
theorem dL_law_486 : decode cL_law 486 = .ok (.aload_n 0, 1) := by decide +kernel
theorem dL_law_487 : decode cL_law 487 = .ok (.iload_n 3, 1) := by decide +kernel
theorem dL_law_488 : decode cL_law 488 = .ok (.iconst 2, 1) := by decide +kernel
theorem dL_law_489 : decode cL_law 489 = .ok (.iadd, 1) := by decide +kernel
theorem dL_law_490 : decode cL_law 490 = .ok (.iaload, 1) := by decide +kernel
theorem dL_law_491 : decode cL_law 491 = .ok (.aload_n 0, 1) := by decide +kernel
theorem dL_law_492 : decode cL_law 492 = .ok (.iload_n 3, 1) := by decide +kernel
theorem dL_law_493 : decode cL_law 493 = .ok (.iconst 3, 1) := by decide +kernel
theorem dL_law_494 : decode cL_law 494 = .ok (.iadd, 1) := by decide +kernel
theorem dL_law_495 : decode cL_law 495 = .ok (.iaload, 1) := by decide +kernel
theorem dL_law_496 : decode cL_law 496 = .ok (.aload_n 0, 1) := by decide +kernel
theorem dL_law_497 : decode cL_law 497 = .ok (.iload_n 3, 1) := by decide +kernel
theorem dL_law_498 : decode cL_law 498 = .ok (.iconst 4, 1) := by decide +kernel
theorem dL_law_499 : decode cL_law 499 = .ok (.iadd, 1) := by decide +kernel
theorem dL_law_500 : decode cL_law 500 = .ok (.iaload, 1) := by decide +kernel
theorem dL_law_501 : decode cL_law 501 = .ok (.aload_n 0, 1) := by decide +kernel
theorem dL_law_502 : decode cL_law 502 = .ok (.iload_n 3, 1) := by decide +kernel
theorem dL_law_503 : decode cL_law 503 = .ok (.iconst 5, 1) := by decide +kernel
theorem dL_law_504 : decode cL_law 504 = .ok (.iadd, 1) := by decide +kernel
theorem dL_law_505 : decode cL_law 505 = .ok (.iaload, 1) := by decide +kernel
theorem dL_law_506 : decode cL_law 506 = .ok (.invokevirtual 49, 3) := by decide +kernel
theorem dL_law_509 : decode cL_law 509 = .ok (.if_icmp .eq 1002, 3) := by decide +kernel
theorem dL_law_512 : decode cL_law 512 = .ok (.iconst 0, 1) := by decide +kernel
theorem dL_law_513 : decode cL_law 513 = .ok (.ireturn, 1) := by decide +kernel
theorem dL_law_514 : decode cL_law 514 = .ok (.aload_n 1, 1) := by decide +kernel
theorem dL_law_515 : decode cL_law 515 = .ok (.aload_n 0, 1) := by decide +kernel
theorem dL_law_516 : decode cL_law 516 = .ok (.iload_n 3, 1) := by decide +kernel
theorem dL_law_517 : decode cL_law 517 = .ok (.iconst 1, 1) := by decide +kernel
theorem dL_law_518 : decode cL_law 518 = .ok (.iadd, 1) := by decide +kernel
theorem dL_law_519 : decode cL_law 519 = .ok (.iaload, 1) := by decide +kernel
theorem dL_law_520 : decode cL_law 520 = .ok (.invokevirtual 50, 3) := by decide +kernel
theorem dL_law_523 : decode cL_law 523 = .ok (.aload_n 2, 1) := by decide +kernel
theorem dL_law_524 : decode cL_law 524 = .ok (.aload_n 0, 1) := by decide +kernel
theorem dL_law_525 : decode cL_law 525 = .ok (.iload_n 3, 1) := by decide +kernel
theorem dL_law_526 : decode cL_law 526 = .ok (.iconst 1, 1) := by decide +kernel
theorem dL_law_527 : decode cL_law 527 = .ok (.iadd, 1) := by decide +kernel
theorem dL_law_528 : decode cL_law 528 = .ok (.iaload, 1) := by decide +kernel
theorem dL_law_529 : decode cL_law 529 = .ok (.invokevirtual 54, 3) := by decide +kernel
theorem dL_law_532 : decode cL_law 532 = .ok (.if_icmp .eq 979, 3) := by decide +kernel
theorem dL_law_535 : decode cL_law 535 = .ok (.iconst 0, 1) := by decide +kernel
theorem dL_law_536 : decode cL_law 536 = .ok (.ireturn, 1) := by decide +kernel
theorem dL_law_537 : decode cL_law 537 = .ok (.aload_n 1, 1) := by decide +kernel
theorem dL_law_538 : decode cL_law 538 = .ok (.aload_n 0, 1) := by decide +kernel
theorem dL_law_539 : decode cL_law 539 = .ok (.iload_n 3, 1) := by decide +kernel
theorem dL_law_540 : decode cL_law 540 = .ok (.iconst 1, 1) := by decide +kernel
theorem dL_law_541 : decode cL_law 541 = .ok (.iadd, 1) := by decide +kernel
theorem dL_law_542 : decode cL_law 542 = .ok (.iaload, 1) := by decide +kernel
theorem dL_law_543 : decode cL_law 543 = .ok (.invokevirtual 55, 3) := by decide +kernel
theorem dL_law_546 : decode cL_law 546 = .ok (.aload_n 2, 1) := by decide +kernel
theorem dL_law_547 : decode cL_law 547 = .ok (.aload_n 0, 1) := by decide +kernel
theorem dL_law_548 : decode cL_law 548 = .ok (.iload_n 3, 1) := by decide +kernel
theorem dL_law_549 : decode cL_law 549 = .ok (.iconst 1, 1) := by decide +kernel
theorem dL_law_550 : decode cL_law 550 = .ok (.iadd, 1) := by decide +kernel
theorem dL_law_551 : decode cL_law 551 = .ok (.iaload, 1) := by decide +kernel
theorem dL_law_552 : decode cL_law 552 = .ok (.invokevirtual 58, 3) := by decide +kernel
theorem dL_law_555 : decode cL_law 555 = .ok (.if_icmp .eq 956, 3) := by decide +kernel
theorem dL_law_558 : decode cL_law 558 = .ok (.iconst 0, 1) := by decide +kernel
theorem dL_law_559 : decode cL_law 559 = .ok (.ireturn, 1) := by decide +kernel
theorem dL_law_560 : decode cL_law 560 = .ok (.aload_n 1, 1) := by decide +kernel
theorem dL_law_561 : decode cL_law 561 = .ok (.aload_n 0, 1) := by decide +kernel
theorem dL_law_562 : decode cL_law 562 = .ok (.iload_n 3, 1) := by decide +kernel
theorem dL_law_563 : decode cL_law 563 = .ok (.iconst 1, 1) := by decide +kernel
theorem dL_law_564 : decode cL_law 564 = .ok (.iadd, 1) := by decide +kernel
theorem dL_law_565 : decode cL_law 565 = .ok (.iaload, 1) := by decide +kernel
theorem dL_law_566 : decode cL_law 566 = .ok (.invokevirtual 59, 3) := by decide +kernel
theorem dL_law_569 : decode cL_law 569 = .ok (.aload_n 2, 1) := by decide +kernel
theorem dL_law_570 : decode cL_law 570 = .ok (.aload_n 0, 1) := by decide +kernel
theorem dL_law_571 : decode cL_law 571 = .ok (.iload_n 3, 1) := by decide +kernel
theorem dL_law_572 : decode cL_law 572 = .ok (.iconst 1, 1) := by decide +kernel
theorem dL_law_573 : decode cL_law 573 = .ok (.iadd, 1) := by decide +kernel
theorem dL_law_574 : decode cL_law 574 = .ok (.iaload, 1) := by decide +kernel
theorem dL_law_575 : decode cL_law 575 = .ok (.invokevirtual 62, 3) := by decide +kernel
theorem dL_law_578 : decode cL_law 578 = .ok (.if_icmp .eq 933, 3) := by decide +kernel
theorem dL_law_581 : decode cL_law 581 = .ok (.iconst 0, 1) := by decide +kernel
theorem dL_law_582 : decode cL_law 582 = .ok (.ireturn, 1) := by decide +kernel
theorem dL_law_583 : decode cL_law 583 = .ok (.aload_n 1, 1) := by decide +kernel
theorem dL_law_584 : decode cL_law 584 = .ok (.aload_n 0, 1) := by decide +kernel
theorem dL_law_585 : decode cL_law 585 = .ok (.iload_n 3, 1) := by decide +kernel
theorem dL_law_586 : decode cL_law 586 = .ok (.iconst 1, 1) := by decide +kernel
theorem dL_law_587 : decode cL_law 587 = .ok (.iadd, 1) := by decide +kernel
theorem dL_law_588 : decode cL_law 588 = .ok (.iaload, 1) := by decide +kernel
theorem dL_law_589 : decode cL_law 589 = .ok (.aload_n 0, 1) := by decide +kernel
theorem dL_law_590 : decode cL_law 590 = .ok (.iload_n 3, 1) := by decide +kernel
theorem dL_law_591 : decode cL_law 591 = .ok (.iconst 2, 1) := by decide +kernel
theorem dL_law_592 : decode cL_law 592 = .ok (.iadd, 1) := by decide +kernel
theorem dL_law_593 : decode cL_law 593 = .ok (.iaload, 1) := by decide +kernel
theorem dL_law_594 : decode cL_law 594 = .ok (.invokevirtual 63, 3) := by decide +kernel
theorem dL_law_597 : decode cL_law 597 = .ok (.aload_n 2, 1) := by decide +kernel
theorem dL_law_598 : decode cL_law 598 = .ok (.aload_n 0, 1) := by decide +kernel
theorem dL_law_599 : decode cL_law 599 = .ok (.iload_n 3, 1) := by decide +kernel
theorem dL_law_600 : decode cL_law 600 = .ok (.iconst 1, 1) := by decide +kernel
theorem dL_law_601 : decode cL_law 601 = .ok (.iadd, 1) := by decide +kernel
theorem dL_law_602 : decode cL_law 602 = .ok (.iaload, 1) := by decide +kernel
theorem dL_law_603 : decode cL_law 603 = .ok (.aload_n 0, 1) := by decide +kernel
theorem dL_law_604 : decode cL_law 604 = .ok (.iload_n 3, 1) := by decide +kernel
theorem dL_law_605 : decode cL_law 605 = .ok (.iconst 2, 1) := by decide +kernel
theorem dL_law_606 : decode cL_law 606 = .ok (.iadd, 1) := by decide +kernel
theorem dL_law_607 : decode cL_law 607 = .ok (.iaload, 1) := by decide +kernel
theorem dL_law_608 : decode cL_law 608 = .ok (.invokevirtual 66, 3) := by decide +kernel
theorem dL_law_611 : decode cL_law 611 = .ok (.if_icmp .eq 900, 3) := by decide +kernel
theorem dL_law_614 : decode cL_law 614 = .ok (.iconst 0, 1) := by decide +kernel
theorem dL_law_615 : decode cL_law 615 = .ok (.ireturn, 1) := by decide +kernel
theorem dL_law_616 : decode cL_law 616 = .ok (.aload_n 1, 1) := by decide +kernel
theorem dL_law_617 : decode cL_law 617 = .ok (.aload_n 0, 1) := by decide +kernel
theorem dL_law_618 : decode cL_law 618 = .ok (.iload_n 3, 1) := by decide +kernel
theorem dL_law_619 : decode cL_law 619 = .ok (.iconst 1, 1) := by decide +kernel
theorem dL_law_620 : decode cL_law 620 = .ok (.iadd, 1) := by decide +kernel
theorem dL_law_621 : decode cL_law 621 = .ok (.iaload, 1) := by decide +kernel
theorem dL_law_622 : decode cL_law 622 = .ok (.aload_n 0, 1) := by decide +kernel
theorem dL_law_623 : decode cL_law 623 = .ok (.iload_n 3, 1) := by decide +kernel
theorem dL_law_624 : decode cL_law 624 = .ok (.iconst 2, 1) := by decide +kernel
theorem dL_law_625 : decode cL_law 625 = .ok (.iadd, 1) := by decide +kernel
theorem dL_law_626 : decode cL_law 626 = .ok (.iaload, 1) := by decide +kernel
theorem dL_law_627 : decode cL_law 627 = .ok (.invokevirtual 67, 3) := by decide +kernel
theorem dL_law_630 : decode cL_law 630 = .ok (.aload_n 2, 1) := by decide +kernel
theorem dL_law_631 : decode cL_law 631 = .ok (.aload_n 0, 1) := by decide +kernel
theorem dL_law_632 : decode cL_law 632 = .ok (.iload_n 3, 1) := by decide +kernel
theorem dL_law_633 : decode cL_law 633 = .ok (.iconst 1, 1) := by decide +kernel
theorem dL_law_634 : decode cL_law 634 = .ok (.iadd, 1) := by decide +kernel
theorem dL_law_635 : decode cL_law 635 = .ok (.iaload, 1) := by decide +kernel
theorem dL_law_636 : decode cL_law 636 = .ok (.aload_n 0, 1) := by decide +kernel
theorem dL_law_637 : decode cL_law 637 = .ok (.iload_n 3, 1) := by decide +kernel
theorem dL_law_638 : decode cL_law 638 = .ok (.iconst 2, 1) := by decide +kernel
theorem dL_law_639 : decode cL_law 639 = .ok (.iadd, 1) := by decide +kernel
theorem dL_law_640 : decode cL_law 640 = .ok (.iaload, 1) := by decide +kernel
theorem dL_law_641 : decode cL_law 641 = .ok (.invokevirtual 70, 3) := by decide +kernel
theorem dL_law_644 : decode cL_law 644 = .ok (.if_icmp .eq 867, 3) := by decide +kernel
theorem dL_law_647 : decode cL_law 647 = .ok (.iconst 0, 1) := by decide +kernel
theorem dL_law_648 : decode cL_law 648 = .ok (.ireturn, 1) := by decide +kernel
theorem dL_law_649 : decode cL_law 649 = .ok (.aload_n 1, 1) := by decide +kernel
theorem dL_law_650 : decode cL_law 650 = .ok (.aload_n 0, 1) := by decide +kernel
theorem dL_law_651 : decode cL_law 651 = .ok (.iload_n 3, 1) := by decide +kernel
theorem dL_law_652 : decode cL_law 652 = .ok (.iconst 1, 1) := by decide +kernel
theorem dL_law_653 : decode cL_law 653 = .ok (.iadd, 1) := by decide +kernel
theorem dL_law_654 : decode cL_law 654 = .ok (.iaload, 1) := by decide +kernel
theorem dL_law_655 : decode cL_law 655 = .ok (.aload_n 0, 1) := by decide +kernel
theorem dL_law_656 : decode cL_law 656 = .ok (.iload_n 3, 1) := by decide +kernel
theorem dL_law_657 : decode cL_law 657 = .ok (.iconst 2, 1) := by decide +kernel
theorem dL_law_658 : decode cL_law 658 = .ok (.iadd, 1) := by decide +kernel
theorem dL_law_659 : decode cL_law 659 = .ok (.iaload, 1) := by decide +kernel
theorem dL_law_660 : decode cL_law 660 = .ok (.invokevirtual 71, 3) := by decide +kernel
theorem dL_law_663 : decode cL_law 663 = .ok (.aload_n 2, 1) := by decide +kernel
theorem dL_law_664 : decode cL_law 664 = .ok (.aload_n 0, 1) := by decide +kernel
theorem dL_law_665 : decode cL_law 665 = .ok (.iload_n 3, 1) := by decide +kernel
theorem dL_law_666 : decode cL_law 666 = .ok (.iconst 1, 1) := by decide +kernel
theorem dL_law_667 : decode cL_law 667 = .ok (.iadd, 1) := by decide +kernel
theorem dL_law_668 : decode cL_law 668 = .ok (.iaload, 1) := by decide +kernel
theorem dL_law_669 : decode cL_law 669 = .ok (.aload_n 0, 1) := by decide +kernel
theorem dL_law_670 : decode cL_law 670 = .ok (.iload_n 3, 1) := by decide +kernel
theorem dL_law_671 : decode cL_law 671 = .ok (.iconst 2, 1) := by decide +kernel
theorem dL_law_672 : decode cL_law 672 = .ok (.iadd, 1) := by decide +kernel
theorem dL_law_673 : decode cL_law 673 = .ok (.iaload, 1) := by decide +kernel
theorem dL_law_674 : decode cL_law 674 = .ok (.invokevirtual 74, 3) := by decide +kernel
theorem dL_law_677 : decode cL_law 677 = .ok (.if_icmp .eq 834, 3) := by decide +kernel
theorem dL_law_680 : decode cL_law 680 = .ok (.iconst 0, 1) := by decide +kernel
theorem dL_law_681 : decode cL_law 681 = .ok (.ireturn, 1) := by decide +kernel
theorem dL_law_682 : decode cL_law 682 = .ok (.aload_n 1, 1) := by decide +kernel
theorem dL_law_683 : decode cL_law 683 = .ok (.aload_n 0, 1) := by decide +kernel
theorem dL_law_684 : decode cL_law 684 = .ok (.iload_n 3, 1) := by decide +kernel
theorem dL_law_685 : decode cL_law 685 = .ok (.iconst 1, 1) := by decide +kernel
theorem dL_law_686 : decode cL_law 686 = .ok (.iadd, 1) := by decide +kernel
theorem dL_law_687 : decode cL_law 687 = .ok (.iaload, 1) := by decide +kernel
theorem dL_law_688 : decode cL_law 688 = .ok (.aload_n 0, 1) := by decide +kernel
theorem dL_law_689 : decode cL_law 689 = .ok (.iload_n 3, 1) := by decide +kernel
theorem dL_law_690 : decode cL_law 690 = .ok (.iconst 2, 1) := by decide +kernel
theorem dL_law_691 : decode cL_law 691 = .ok (.iadd, 1) := by decide +kernel
theorem dL_law_692 : decode cL_law 692 = .ok (.iaload, 1) := by decide +kernel
theorem dL_law_693 : decode cL_law 693 = .ok (.invokevirtual 75, 3) := by decide +kernel
theorem dL_law_696 : decode cL_law 696 = .ok (.aload_n 2, 1) := by decide +kernel
theorem dL_law_697 : decode cL_law 697 = .ok (.aload_n 0, 1) := by decide +kernel
theorem dL_law_698 : decode cL_law 698 = .ok (.iload_n 3, 1) := by decide +kernel
theorem dL_law_699 : decode cL_law 699 = .ok (.iconst 1, 1) := by decide +kernel
theorem dL_law_700 : decode cL_law 700 = .ok (.iadd, 1) := by decide +kernel
theorem dL_law_701 : decode cL_law 701 = .ok (.iaload, 1) := by decide +kernel
theorem dL_law_702 : decode cL_law 702 = .ok (.aload_n 0, 1) := by decide +kernel
theorem dL_law_703 : decode cL_law 703 = .ok (.iload_n 3, 1) := by decide +kernel
theorem dL_law_704 : decode cL_law 704 = .ok (.iconst 2, 1) := by decide +kernel
theorem dL_law_705 : decode cL_law 705 = .ok (.iadd, 1) := by decide +kernel
theorem dL_law_706 : decode cL_law 706 = .ok (.iaload, 1) := by decide +kernel
theorem dL_law_707 : decode cL_law 707 = .ok (.invokevirtual 78, 3) := by decide +kernel
theorem dL_law_710 : decode cL_law 710 = .ok (.if_icmp .eq 801, 3) := by decide +kernel
theorem dL_law_713 : decode cL_law 713 = .ok (.iconst 0, 1) := by decide +kernel
theorem dL_law_714 : decode cL_law 714 = .ok (.ireturn, 1) := by decide +kernel
theorem dL_law_715 : decode cL_law 715 = .ok (.aload_n 1, 1) := by decide +kernel
theorem dL_law_716 : decode cL_law 716 = .ok (.aload_n 0, 1) := by decide +kernel
theorem dL_law_717 : decode cL_law 717 = .ok (.iload_n 3, 1) := by decide +kernel
theorem dL_law_718 : decode cL_law 718 = .ok (.iconst 1, 1) := by decide +kernel
theorem dL_law_719 : decode cL_law 719 = .ok (.iadd, 1) := by decide +kernel
theorem dL_law_720 : decode cL_law 720 = .ok (.iaload, 1) := by decide +kernel
theorem dL_law_721 : decode cL_law 721 = .ok (.aload_n 0, 1) := by decide +kernel
theorem dL_law_722 : decode cL_law 722 = .ok (.iload_n 3, 1) := by decide +kernel
theorem dL_law_723 : decode cL_law 723 = .ok (.iconst 2, 1) := by decide +kernel
theorem dL_law_724 : decode cL_law 724 = .ok (.iadd, 1) := by decide +kernel
theorem dL_law_725 : decode cL_law 725 = .ok (.iaload, 1) := by decide +kernel
theorem dL_law_726 : decode cL_law 726 = .ok (.invokevirtual 79, 3) := by decide +kernel
theorem dL_law_729 : decode cL_law 729 = .ok (.aload_n 2, 1) := by decide +kernel
theorem dL_law_730 : decode cL_law 730 = .ok (.aload_n 0, 1) := by decide +kernel
theorem dL_law_731 : decode cL_law 731 = .ok (.iload_n 3, 1) := by decide +kernel
theorem dL_law_732 : decode cL_law 732 = .ok (.iconst 1, 1) := by decide +kernel
theorem dL_law_733 : decode cL_law 733 = .ok (.iadd, 1) := by decide +kernel
theorem dL_law_734 : decode cL_law 734 = .ok (.iaload, 1) := by decide +kernel
theorem dL_law_735 : decode cL_law 735 = .ok (.aload_n 0, 1) := by decide +kernel
theorem dL_law_736 : decode cL_law 736 = .ok (.iload_n 3, 1) := by decide +kernel
theorem dL_law_737 : decode cL_law 737 = .ok (.iconst 2, 1) := by decide +kernel
theorem dL_law_738 : decode cL_law 738 = .ok (.iadd, 1) := by decide +kernel
theorem dL_law_739 : decode cL_law 739 = .ok (.iaload, 1) := by decide +kernel
theorem dL_law_740 : decode cL_law 740 = .ok (.invokevirtual 82, 3) := by decide +kernel
theorem dL_law_743 : decode cL_law 743 = .ok (.if_icmp .eq 768, 3) := by decide +kernel
theorem dL_law_746 : decode cL_law 746 = .ok (.iconst 0, 1) := by decide +kernel
theorem dL_law_747 : decode cL_law 747 = .ok (.ireturn, 1) := by decide +kernel
theorem dL_law_748 : decode cL_law 748 = .ok (.aload_n 1, 1) := by decide +kernel
theorem dL_law_749 : decode cL_law 749 = .ok (.aload_n 0, 1) := by decide +kernel
theorem dL_law_750 : decode cL_law 750 = .ok (.iload_n 3, 1) := by decide +kernel
theorem dL_law_751 : decode cL_law 751 = .ok (.iconst 1, 1) := by decide +kernel
theorem dL_law_752 : decode cL_law 752 = .ok (.iadd, 1) := by decide +kernel
theorem dL_law_753 : decode cL_law 753 = .ok (.iaload, 1) := by decide +kernel
theorem dL_law_754 : decode cL_law 754 = .ok (.invokevirtual 83, 3) := by decide +kernel
theorem dL_law_757 : decode cL_law 757 = .ok (.aload_n 2, 1) := by decide +kernel
theorem dL_law_758 : decode cL_law 758 = .ok (.aload_n 0, 1) := by decide +kernel
theorem dL_law_759 : decode cL_law 759 = .ok (.iload_n 3, 1) := by decide +kernel
theorem dL_law_760 : decode cL_law 760 = .ok (.iconst 1, 1) := by decide +kernel
theorem dL_law_761 : decode cL_law 761 = .ok (.iadd, 1) := by decide +kernel
theorem dL_law_762 : decode cL_law 762 = .ok (.iaload, 1) := by decide +kernel
theorem dL_law_763 : decode cL_law 763 = .ok (.invokevirtual 86, 3) := by decide +kernel
theorem dL_law_766 : decode cL_law 766 = .ok (.if_icmp .eq 745, 3) := by decide +kernel
theorem dL_law_769 : decode cL_law 769 = .ok (.iconst 0, 1) := by decide +kernel
theorem dL_law_770 : decode cL_law 770 = .ok (.ireturn, 1) := by decide +kernel
theorem dL_law_771 : decode cL_law 771 = .ok (.aload_n 1, 1) := by decide +kernel
theorem dL_law_772 : decode cL_law 772 = .ok (.aload_n 0, 1) := by decide +kernel
theorem dL_law_773 : decode cL_law 773 = .ok (.iload_n 3, 1) := by decide +kernel
theorem dL_law_774 : decode cL_law 774 = .ok (.iconst 1, 1) := by decide +kernel
theorem dL_law_775 : decode cL_law 775 = .ok (.iadd, 1) := by decide +kernel
theorem dL_law_776 : decode cL_law 776 = .ok (.iaload, 1) := by decide +kernel
theorem dL_law_777 : decode cL_law 777 = .ok (.invokevirtual 87, 3) := by decide +kernel
theorem dL_law_780 : decode cL_law 780 = .ok (.aload_n 2, 1) := by decide +kernel
theorem dL_law_781 : decode cL_law 781 = .ok (.aload_n 0, 1) := by decide +kernel
theorem dL_law_782 : decode cL_law 782 = .ok (.iload_n 3, 1) := by decide +kernel
theorem dL_law_783 : decode cL_law 783 = .ok (.iconst 1, 1) := by decide +kernel
theorem dL_law_784 : decode cL_law 784 = .ok (.iadd, 1) := by decide +kernel
theorem dL_law_785 : decode cL_law 785 = .ok (.iaload, 1) := by decide +kernel
theorem dL_law_786 : decode cL_law 786 = .ok (.invokevirtual 90, 3) := by decide +kernel
theorem dL_law_789 : decode cL_law 789 = .ok (.if_icmp .eq 722, 3) := by decide +kernel
theorem dL_law_792 : decode cL_law 792 = .ok (.iconst 0, 1) := by decide +kernel
theorem dL_law_793 : decode cL_law 793 = .ok (.ireturn, 1) := by decide +kernel
theorem dL_law_794 : decode cL_law 794 = .ok (.aload_n 1, 1) := by decide +kernel
theorem dL_law_795 : decode cL_law 795 = .ok (.aload_n 0, 1) := by decide +kernel
theorem dL_law_796 : decode cL_law 796 = .ok (.iload_n 3, 1) := by decide +kernel
theorem dL_law_797 : decode cL_law 797 = .ok (.iconst 1, 1) := by decide +kernel
theorem dL_law_798 : decode cL_law 798 = .ok (.iadd, 1) := by decide +kernel
theorem dL_law_799 : decode cL_law 799 = .ok (.iaload, 1) := by decide +kernel
theorem dL_law_800 : decode cL_law 800 = .ok (.aload_n 0, 1) := by decide +kernel
theorem dL_law_801 : decode cL_law 801 = .ok (.iload_n 3, 1) := by decide +kernel
theorem dL_law_802 : decode cL_law 802 = .ok (.iconst 2, 1) := by decide +kernel
theorem dL_law_803 : decode cL_law 803 = .ok (.iadd, 1) := by decide +kernel
theorem dL_law_804 : decode cL_law 804 = .ok (.iaload, 1) := by decide +kernel
theorem dL_law_805 : decode cL_law 805 = .ok (.invokevirtual 91, 3) := by decide +kernel
theorem dL_law_808 : decode cL_law 808 = .ok (.aload_n 2, 1) := by decide +kernel
theorem dL_law_809 : decode cL_law 809 = .ok (.aload_n 0, 1) := by decide +kernel
theorem dL_law_810 : decode cL_law 810 = .ok (.iload_n 3, 1) := by decide +kernel
theorem dL_law_811 : decode cL_law 811 = .ok (.iconst 1, 1) := by decide +kernel
theorem dL_law_812 : decode cL_law 812 = .ok (.iadd, 1) := by decide +kernel
theorem dL_law_813 : decode cL_law 813 = .ok (.iaload, 1) := by decide +kernel
theorem dL_law_814 : decode cL_law 814 = .ok (.aload_n 0, 1) := by decide +kernel
theorem dL_law_815 : decode cL_law 815 = .ok (.iload_n 3, 1) := by decide +kernel
theorem dL_law_816 : decode cL_law 816 = .ok (.iconst 2, 1) := by decide +kernel
theorem dL_law_817 : decode cL_law 817 = .ok (.iadd, 1) := by decide +kernel
theorem dL_law_818 : decode cL_law 818 = .ok (.iaload, 1) := by decide +kernel
theorem dL_law_819 : decode cL_law 819 = .ok (.invokevirtual 94, 3) := by decide +kernel
theorem dL_law_822 : decode cL_law 822 = .ok (.if_icmp .eq 689, 3) := by decide +kernel
theorem dL_law_825 : decode cL_law 825 = .ok (.iconst 0, 1) := by decide +kernel
theorem dL_law_826 : decode cL_law 826 = .ok (.ireturn, 1) := by decide +kernel
theorem dL_law_827 : decode cL_law 827 = .ok (.aload_n 1, 1) := by decide +kernel
theorem dL_law_828 : decode cL_law 828 = .ok (.invokevirtual 95, 3) := by decide +kernel
theorem dL_law_831 : decode cL_law 831 = .ok (.aload_n 2, 1) := by decide +kernel
theorem dL_law_832 : decode cL_law 832 = .ok (.invokevirtual 99, 3) := by decide +kernel
theorem dL_law_835 : decode cL_law 835 = .ok (.if_icmp .eq 676, 3) := by decide +kernel
theorem dL_law_838 : decode cL_law 838 = .ok (.iconst 0, 1) := by decide +kernel
theorem dL_law_839 : decode cL_law 839 = .ok (.ireturn, 1) := by decide +kernel
theorem dL_law_840 : decode cL_law 840 = .ok (.aload_n 1, 1) := by decide +kernel
theorem dL_law_841 : decode cL_law 841 = .ok (.aload_n 0, 1) := by decide +kernel
theorem dL_law_842 : decode cL_law 842 = .ok (.iload_n 3, 1) := by decide +kernel
theorem dL_law_843 : decode cL_law 843 = .ok (.iconst 1, 1) := by decide +kernel
theorem dL_law_844 : decode cL_law 844 = .ok (.iadd, 1) := by decide +kernel
theorem dL_law_845 : decode cL_law 845 = .ok (.iaload, 1) := by decide +kernel
theorem dL_law_846 : decode cL_law 846 = .ok (.aload_n 0, 1) := by decide +kernel
theorem dL_law_847 : decode cL_law 847 = .ok (.iload_n 3, 1) := by decide +kernel
theorem dL_law_848 : decode cL_law 848 = .ok (.iconst 2, 1) := by decide +kernel
theorem dL_law_849 : decode cL_law 849 = .ok (.iadd, 1) := by decide +kernel
theorem dL_law_850 : decode cL_law 850 = .ok (.iaload, 1) := by decide +kernel
theorem dL_law_851 : decode cL_law 851 = .ok (.invokevirtual 100, 3) := by decide +kernel
theorem dL_law_854 : decode cL_law 854 = .ok (.aload_n 2, 1) := by decide +kernel
theorem dL_law_855 : decode cL_law 855 = .ok (.aload_n 0, 1) := by decide +kernel
theorem dL_law_856 : decode cL_law 856 = .ok (.iload_n 3, 1) := by decide +kernel
theorem dL_law_857 : decode cL_law 857 = .ok (.iconst 1, 1) := by decide +kernel
theorem dL_law_858 : decode cL_law 858 = .ok (.iadd, 1) := by decide +kernel
theorem dL_law_859 : decode cL_law 859 = .ok (.iaload, 1) := by decide +kernel
theorem dL_law_860 : decode cL_law 860 = .ok (.aload_n 0, 1) := by decide +kernel
theorem dL_law_861 : decode cL_law 861 = .ok (.iload_n 3, 1) := by decide +kernel
theorem dL_law_862 : decode cL_law 862 = .ok (.iconst 2, 1) := by decide +kernel
theorem dL_law_863 : decode cL_law 863 = .ok (.iadd, 1) := by decide +kernel
theorem dL_law_864 : decode cL_law 864 = .ok (.iaload, 1) := by decide +kernel
theorem dL_law_865 : decode cL_law 865 = .ok (.invokevirtual 104, 3) := by decide +kernel
theorem dL_law_868 : decode cL_law 868 = .ok (.if_icmp .eq 643, 3) := by decide +kernel
theorem dL_law_871 : decode cL_law 871 = .ok (.iconst 0, 1) := by decide +kernel
theorem dL_law_872 : decode cL_law 872 = .ok (.ireturn, 1) := by decide +kernel
theorem dL_law_873 : decode cL_law 873 = .ok (.aload_n 1, 1) := by decide +kernel
theorem dL_law_874 : decode cL_law 874 = .ok (.invokevirtual 105, 3) := by decide +kernel
theorem dL_law_877 : decode cL_law 877 = .ok (.aload_n 2, 1) := by decide +kernel
theorem dL_law_878 : decode cL_law 878 = .ok (.invokevirtual 108, 3) := by decide +kernel
theorem dL_law_881 : decode cL_law 881 = .ok (.if_icmp .eq 630, 3) := by decide +kernel
theorem dL_law_884 : decode cL_law 884 = .ok (.iconst 0, 1) := by decide +kernel
theorem dL_law_885 : decode cL_law 885 = .ok (.ireturn, 1) := by decide +kernel
theorem dL_law_886 : decode cL_law 886 = .ok (.aload_n 1, 1) := by decide +kernel
theorem dL_law_887 : decode cL_law 887 = .ok (.aload_n 0, 1) := by decide +kernel
theorem dL_law_888 : decode cL_law 888 = .ok (.iload_n 3, 1) := by decide +kernel
theorem dL_law_889 : decode cL_law 889 = .ok (.iconst 1, 1) := by decide +kernel
theorem dL_law_890 : decode cL_law 890 = .ok (.iadd, 1) := by decide +kernel
theorem dL_law_891 : decode cL_law 891 = .ok (.iaload, 1) := by decide +kernel
theorem dL_law_892 : decode cL_law 892 = .ok (.aload_n 0, 1) := by decide +kernel
theorem dL_law_893 : decode cL_law 893 = .ok (.iload_n 3, 1) := by decide +kernel
theorem dL_law_894 : decode cL_law 894 = .ok (.iconst 2, 1) := by decide +kernel
theorem dL_law_895 : decode cL_law 895 = .ok (.iadd, 1) := by decide +kernel
theorem dL_law_896 : decode cL_law 896 = .ok (.iaload, 1) := by decide +kernel
theorem dL_law_897 : decode cL_law 897 = .ok (.invokevirtual 109, 3) := by decide +kernel
theorem dL_law_900 : decode cL_law 900 = .ok (.aload_n 2, 1) := by decide +kernel
theorem dL_law_901 : decode cL_law 901 = .ok (.aload_n 0, 1) := by decide +kernel
theorem dL_law_902 : decode cL_law 902 = .ok (.iload_n 3, 1) := by decide +kernel
theorem dL_law_903 : decode cL_law 903 = .ok (.iconst 1, 1) := by decide +kernel
theorem dL_law_904 : decode cL_law 904 = .ok (.iadd, 1) := by decide +kernel
theorem dL_law_905 : decode cL_law 905 = .ok (.iaload, 1) := by decide +kernel
theorem dL_law_906 : decode cL_law 906 = .ok (.aload_n 0, 1) := by decide +kernel
theorem dL_law_907 : decode cL_law 907 = .ok (.iload_n 3, 1) := by decide +kernel
theorem dL_law_908 : decode cL_law 908 = .ok (.iconst 2, 1) := by decide +kernel
theorem dL_law_909 : decode cL_law 909 = .ok (.iadd, 1) := by decide +kernel
theorem dL_law_910 : decode cL_law 910 = .ok (.iaload, 1) := by decide +kernel
theorem dL_law_911 : decode cL_law 911 = .ok (.invokevirtual 112, 3) := by decide +kernel
theorem dL_law_914 : decode cL_law 914 = .ok (.if_icmp .eq 597, 3) := by decide +kernel
theorem dL_law_917 : decode cL_law 917 = .ok (.iconst 0, 1) := by decide +kernel
theorem dL_law_918 : decode cL_law 918 = .ok (.ireturn, 1) := by decide +kernel
theorem dL_law_919 : decode cL_law 919 = .ok (.aload_n 1, 1) := by decide +kernel
theorem dL_law_920 : decode cL_law 920 = .ok (.aload_n 0, 1) := by decide +kernel
theorem dL_law_921 : decode cL_law 921 = .ok (.iload_n 3, 1) := by decide +kernel
theorem dL_law_922 : decode cL_law 922 = .ok (.iconst 1, 1) := by decide +kernel
theorem dL_law_923 : decode cL_law 923 = .ok (.iadd, 1) := by decide +kernel
theorem dL_law_924 : decode cL_law 924 = .ok (.iaload, 1) := by decide +kernel
theorem dL_law_925 : decode cL_law 925 = .ok (.aload_n 0, 1) := by decide +kernel
theorem dL_law_926 : decode cL_law 926 = .ok (.iload_n 3, 1) := by decide +kernel
theorem dL_law_927 : decode cL_law 927 = .ok (.iconst 2, 1) := by decide +kernel
theorem dL_law_928 : decode cL_law 928 = .ok (.iadd, 1) := by decide +kernel
theorem dL_law_929 : decode cL_law 929 = .ok (.iaload, 1) := by decide +kernel
theorem dL_law_930 : decode cL_law 930 = .ok (.invokevirtual 113, 3) := by decide +kernel
theorem dL_law_933 : decode cL_law 933 = .ok (.aload_n 2, 1) := by decide +kernel
theorem dL_law_934 : decode cL_law 934 = .ok (.aload_n 0, 1) := by decide +kernel
theorem dL_law_935 : decode cL_law 935 = .ok (.iload_n 3, 1) := by decide +kernel
theorem dL_law_936 : decode cL_law 936 = .ok (.iconst 1, 1) := by decide +kernel
theorem dL_law_937 : decode cL_law 937 = .ok (.iadd, 1) := by decide +kernel
theorem dL_law_938 : decode cL_law 938 = .ok (.iaload, 1) := by decide +kernel
theorem dL_law_939 : decode cL_law 939 = .ok (.aload_n 0, 1) := by decide +kernel
theorem dL_law_940 : decode cL_law 940 = .ok (.iload_n 3, 1) := by decide +kernel
theorem dL_law_941 : decode cL_law 941 = .ok (.iconst 2, 1) := by decide +kernel
theorem dL_law_942 : decode cL_law 942 = .ok (.iadd, 1) := by decide +kernel
theorem dL_law_943 : decode cL_law 943 = .ok (.iaload, 1) := by decide +kernel
theorem dL_law_944 : decode cL_law 944 = .ok (.invokevirtual 116, 3) := by decide +kernel
theorem dL_law_947 : decode cL_law 947 = .ok (.if_icmp .eq 564, 3) := by decide +kernel
theorem dL_law_950 : decode cL_law 950 = .ok (.iconst 0, 1) := by decide +kernel
theorem dL_law_951 : decode cL_law 951 = .ok (.ireturn, 1) := by decide +kernel
theorem dL_law_952 : decode cL_law 952 = .ok (.aload_n 1, 1) := by decide +kernel
theorem dL_law_953 : decode cL_law 953 = .ok (.aload_n 0, 1) := by decide +kernel
theorem dL_law_954 : decode cL_law 954 = .ok (.iload_n 3, 1) := by decide +kernel
theorem dL_law_955 : decode cL_law 955 = .ok (.iconst 1, 1) := by decide +kernel
theorem dL_law_956 : decode cL_law 956 = .ok (.iadd, 1) := by decide +kernel
theorem dL_law_957 : decode cL_law 957 = .ok (.iaload, 1) := by decide +kernel
theorem dL_law_958 : decode cL_law 958 = .ok (.aload_n 0, 1) := by decide +kernel
theorem dL_law_959 : decode cL_law 959 = .ok (.iload_n 3, 1) := by decide +kernel
theorem dL_law_960 : decode cL_law 960 = .ok (.iconst 2, 1) := by decide +kernel
theorem dL_law_961 : decode cL_law 961 = .ok (.iadd, 1) := by decide +kernel
theorem dL_law_962 : decode cL_law 962 = .ok (.iaload, 1) := by decide +kernel
theorem dL_law_963 : decode cL_law 963 = .ok (.invokevirtual 117, 3) := by decide +kernel
theorem dL_law_966 : decode cL_law 966 = .ok (.aload_n 2, 1) := by decide +kernel
theorem dL_law_967 : decode cL_law 967 = .ok (.aload_n 0, 1) := by decide +kernel
theorem dL_law_968 : decode cL_law 968 = .ok (.iload_n 3, 1) := by decide +kernel
theorem dL_law_969 : decode cL_law 969 = .ok (.iconst 1, 1) := by decide +kernel
theorem dL_law_970 : decode cL_law 970 = .ok (.iadd, 1) := by decide +kernel
theorem dL_law_971 : decode cL_law 971 = .ok (.iaload, 1) := by decide +kernel
theorem dL_law_972 : decode cL_law 972 = .ok (.aload_n 0, 1) := by decide +kernel
theorem dL_law_973 : decode cL_law 973 = .ok (.iload_n 3, 1) := by decide +kernel
theorem dL_law_974 : decode cL_law 974 = .ok (.iconst 2, 1) := by decide +kernel
theorem dL_law_975 : decode cL_law 975 = .ok (.iadd, 1) := by decide +kernel
theorem dL_law_976 : decode cL_law 976 = .ok (.iaload, 1) := by decide +kernel
theorem dL_law_977 : decode cL_law 977 = .ok (.invokevirtual 120, 3) := by decide +kernel
theorem dL_law_980 : decode cL_law 980 = .ok (.if_icmp .eq 531, 3) := by decide +kernel
theorem dL_law_983 : decode cL_law 983 = .ok (.iconst 0, 1) := by decide +kernel
theorem dL_law_984 : decode cL_law 984 = .ok (.ireturn, 1) := by decide +kernel
theorem dL_law_985 : decode cL_law 985 = .ok (.aload_n 1, 1) := by decide +kernel
theorem dL_law_986 : decode cL_law 986 = .ok (.aload_n 0, 1) := by decide +kernel
theorem dL_law_987 : decode cL_law 987 = .ok (.iload_n 3, 1) := by decide +kernel
theorem dL_law_988 : decode cL_law 988 = .ok (.iconst 1, 1) := by decide +kernel
theorem dL_law_989 : decode cL_law 989 = .ok (.iadd, 1) := by decide +kernel
theorem dL_law_990 : decode cL_law 990 = .ok (.iaload, 1) := by decide +kernel
theorem dL_law_991 : decode cL_law 991 = .ok (.invokevirtual 121, 3) := by decide +kernel
theorem dL_law_994 : decode cL_law 994 = .ok (.aload_n 2, 1) := by decide +kernel
theorem dL_law_995 : decode cL_law 995 = .ok (.aload_n 0, 1) := by decide +kernel
theorem dL_law_996 : decode cL_law 996 = .ok (.iload_n 3, 1) := by decide +kernel
theorem dL_law_997 : decode cL_law 997 = .ok (.iconst 1, 1) := by decide +kernel
theorem dL_law_998 : decode cL_law 998 = .ok (.iadd, 1) := by decide +kernel
theorem dL_law_999 : decode cL_law 999 = .ok (.iaload, 1) := by decide +kernel
theorem dL_law_1000 : decode cL_law 1000 = .ok (.invokevirtual 124, 3) := by decide +kernel
theorem dL_law_1003 : decode cL_law 1003 = .ok (.if_icmp .eq 508, 3) := by decide +kernel
theorem dL_law_1006 : decode cL_law 1006 = .ok (.iconst 0, 1) := by decide +kernel
theorem dL_law_1007 : decode cL_law 1007 = .ok (.ireturn, 1) := by decide +kernel
theorem dL_law_1008 : decode cL_law 1008 = .ok (.aload_n 1, 1) := by decide +kernel
theorem dL_law_1009 : decode cL_law 1009 = .ok (.aload_n 0, 1) := by decide +kernel
theorem dL_law_1010 : decode cL_law 1010 = .ok (.iload_n 3, 1) := by decide +kernel
theorem dL_law_1011 : decode cL_law 1011 = .ok (.iconst 1, 1) := by decide +kernel
theorem dL_law_1012 : decode cL_law 1012 = .ok (.iadd, 1) := by decide +kernel
theorem dL_law_1013 : decode cL_law 1013 = .ok (.iaload, 1) := by decide +kernel
theorem dL_law_1014 : decode cL_law 1014 = .ok (.aload_n 0, 1) := by decide +kernel
theorem dL_law_1015 : decode cL_law 1015 = .ok (.iload_n 3, 1) := by decide +kernel
theorem dL_law_1016 : decode cL_law 1016 = .ok (.iconst 2, 1) := by decide +kernel
theorem dL_law_1017 : decode cL_law 1017 = .ok (.iadd, 1) := by decide +kernel
theorem dL_law_1018 : decode cL_law 1018 = .ok (.iaload, 1) := by decide +kernel
theorem dL_law_1019 : decode cL_law 1019 = .ok (.invokevirtual 125, 3) := by decide +kernel
theorem dL_law_1022 : decode cL_law 1022 = .ok (.aload_n 2, 1) := by decide +kernel
theorem dL_law_1023 : decode cL_law 1023 = .ok (.aload_n 0, 1) := by decide +kernel
theorem dL_law_1024 : decode cL_law 1024 = .ok (.iload_n 3, 1) := by decide +kernel
theorem dL_law_1025 : decode cL_law 1025 = .ok (.iconst 1, 1) := by decide +kernel
theorem dL_law_1026 : decode cL_law 1026 = .ok (.iadd, 1) := by decide +kernel
theorem dL_law_1027 : decode cL_law 1027 = .ok (.iaload, 1) := by decide +kernel
theorem dL_law_1028 : decode cL_law 1028 = .ok (.aload_n 0, 1) := by decide +kernel
theorem dL_law_1029 : decode cL_law 1029 = .ok (.iload_n 3, 1) := by decide +kernel
theorem dL_law_1030 : decode cL_law 1030 = .ok (.iconst 2, 1) := by decide +kernel
theorem dL_law_1031 : decode cL_law 1031 = .ok (.iadd, 1) := by decide +kernel
theorem dL_law_1032 : decode cL_law 1032 = .ok (.iaload, 1) := by decide +kernel
theorem dL_law_1033 : decode cL_law 1033 = .ok (.invokevirtual 128, 3) := by decide +kernel
theorem dL_law_1036 : decode cL_law 1036 = .ok (.if_icmp .eq 475, 3) := by decide +kernel
theorem dL_law_1039 : decode cL_law 1039 = .ok (.iconst 0, 1) := by decide +kernel
theorem dL_law_1040 : decode cL_law 1040 = .ok (.ireturn, 1) := by decide +kernel
theorem dL_law_1041 : decode cL_law 1041 = .ok (.aload_n 1, 1) := by decide +kernel
theorem dL_law_1042 : decode cL_law 1042 = .ok (.aload_n 0, 1) := by decide +kernel
theorem dL_law_1043 : decode cL_law 1043 = .ok (.iload_n 3, 1) := by decide +kernel
theorem dL_law_1044 : decode cL_law 1044 = .ok (.iconst 1, 1) := by decide +kernel
theorem dL_law_1045 : decode cL_law 1045 = .ok (.iadd, 1) := by decide +kernel
theorem dL_law_1046 : decode cL_law 1046 = .ok (.iaload, 1) := by decide +kernel
theorem dL_law_1047 : decode cL_law 1047 = .ok (.invokevirtual 129, 3) := by decide +kernel
theorem dL_law_1050 : decode cL_law 1050 = .ok (.aload_n 2, 1) := by decide +kernel
theorem dL_law_1051 : decode cL_law 1051 = .ok (.aload_n 0, 1) := by decide +kernel
theorem dL_law_1052 : decode cL_law 1052 = .ok (.iload_n 3, 1) := by decide +kernel
theorem dL_law_1053 : decode cL_law 1053 = .ok (.iconst 1, 1) := by decide +kernel
theorem dL_law_1054 : decode cL_law 1054 = .ok (.iadd, 1) := by decide +kernel
theorem dL_law_1055 : decode cL_law 1055 = .ok (.iaload, 1) := by decide +kernel
theorem dL_law_1056 : decode cL_law 1056 = .ok (.invokevirtual 132, 3) := by decide +kernel
theorem dL_law_1059 : decode cL_law 1059 = .ok (.if_icmp .eq 452, 3) := by decide +kernel
theorem dL_law_1062 : decode cL_law 1062 = .ok (.iconst 0, 1) := by decide +kernel
theorem dL_law_1063 : decode cL_law 1063 = .ok (.ireturn, 1) := by decide +kernel
theorem dL_law_1064 : decode cL_law 1064 = .ok (.aload_n 1, 1) := by decide +kernel
theorem dL_law_1065 : decode cL_law 1065 = .ok (.aload_n 0, 1) := by decide +kernel
theorem dL_law_1066 : decode cL_law 1066 = .ok (.iload_n 3, 1) := by decide +kernel
theorem dL_law_1067 : decode cL_law 1067 = .ok (.iconst 1, 1) := by decide +kernel
theorem dL_law_1068 : decode cL_law 1068 = .ok (.iadd, 1) := by decide +kernel
theorem dL_law_1069 : decode cL_law 1069 = .ok (.iaload, 1) := by decide +kernel
theorem dL_law_1070 : decode cL_law 1070 = .ok (.aload_n 0, 1) := by decide +kernel
theorem dL_law_1071 : decode cL_law 1071 = .ok (.iload_n 3, 1) := by decide +kernel
theorem dL_law_1072 : decode cL_law 1072 = .ok (.iconst 2, 1) := by decide +kernel
theorem dL_law_1073 : decode cL_law 1073 = .ok (.iadd, 1) := by decide +kernel
theorem dL_law_1074 : decode cL_law 1074 = .ok (.iaload, 1) := by decide +kernel
theorem dL_law_1075 : decode cL_law 1075 = .ok (.invokevirtual 133, 3) := by decide +kernel
theorem dL_law_1078 : decode cL_law 1078 = .ok (.aload_n 2, 1) := by decide +kernel
theorem dL_law_1079 : decode cL_law 1079 = .ok (.aload_n 0, 1) := by decide +kernel
theorem dL_law_1080 : decode cL_law 1080 = .ok (.iload_n 3, 1) := by decide +kernel
theorem dL_law_1081 : decode cL_law 1081 = .ok (.iconst 1, 1) := by decide +kernel
theorem dL_law_1082 : decode cL_law 1082 = .ok (.iadd, 1) := by decide +kernel
theorem dL_law_1083 : decode cL_law 1083 = .ok (.iaload, 1) := by decide +kernel
theorem dL_law_1084 : decode cL_law 1084 = .ok (.aload_n 0, 1) := by decide +kernel
theorem dL_law_1085 : decode cL_law 1085 = .ok (.iload_n 3, 1) := by decide +kernel
theorem dL_law_1086 : decode cL_law 1086 = .ok (.iconst 2, 1) := by decide +kernel
theorem dL_law_1087 : decode cL_law 1087 = .ok (.iadd, 1) := by decide +kernel
theorem dL_law_1088 : decode cL_law 1088 = .ok (.iaload, 1) := by decide +kernel
theorem dL_law_1089 : decode cL_law 1089 = .ok (.invokevirtual 136, 3) := by decide +kernel
theorem dL_law_1092 : decode cL_law 1092 = .ok (.if_icmp .eq 419, 3) := by decide +kernel
theorem dL_law_1095 : decode cL_law 1095 = .ok (.iconst 0, 1) := by decide +kernel
theorem dL_law_1096 : decode cL_law 1096 = .ok (.ireturn, 1) := by decide +kernel
theorem dL_law_1097 : decode cL_law 1097 = .ok (.aload_n 1, 1) := by decide +kernel
theorem dL_law_1098 : decode cL_law 1098 = .ok (.aload_n 0, 1) := by decide +kernel
theorem dL_law_1099 : decode cL_law 1099 = .ok (.iload_n 3, 1) := by decide +kernel
theorem dL_law_1100 : decode cL_law 1100 = .ok (.iconst 1, 1) := by decide +kernel
theorem dL_law_1101 : decode cL_law 1101 = .ok (.iadd, 1) := by decide +kernel
theorem dL_law_1102 : decode cL_law 1102 = .ok (.iaload, 1) := by decide +kernel
theorem dL_law_1103 : decode cL_law 1103 = .ok (.invokevirtual 137, 3) := by decide +kernel
theorem dL_law_1106 : decode cL_law 1106 = .ok (.aload_n 2, 1) := by decide +kernel
theorem dL_law_1107 : decode cL_law 1107 = .ok (.aload_n 0, 1) := by decide +kernel
theorem dL_law_1108 : decode cL_law 1108 = .ok (.iload_n 3, 1) := by decide +kernel
theorem dL_law_1109 : decode cL_law 1109 = .ok (.iconst 1, 1) := by decide +kernel
theorem dL_law_1110 : decode cL_law 1110 = .ok (.iadd, 1) := by decide +kernel
theorem dL_law_1111 : decode cL_law 1111 = .ok (.iaload, 1) := by decide +kernel
theorem dL_law_1112 : decode cL_law 1112 = .ok (.invokevirtual 140, 3) := by decide +kernel
theorem dL_law_1115 : decode cL_law 1115 = .ok (.if_icmp .eq 396, 3) := by decide +kernel
theorem dL_law_1118 : decode cL_law 1118 = .ok (.iconst 0, 1) := by decide +kernel
theorem dL_law_1119 : decode cL_law 1119 = .ok (.ireturn, 1) := by decide +kernel
theorem dL_law_1120 : decode cL_law 1120 = .ok (.aload_n 1, 1) := by decide +kernel
theorem dL_law_1121 : decode cL_law 1121 = .ok (.aload_n 0, 1) := by decide +kernel
theorem dL_law_1122 : decode cL_law 1122 = .ok (.iload_n 3, 1) := by decide +kernel
theorem dL_law_1123 : decode cL_law 1123 = .ok (.iconst 1, 1) := by decide +kernel
theorem dL_law_1124 : decode cL_law 1124 = .ok (.iadd, 1) := by decide +kernel
theorem dL_law_1125 : decode cL_law 1125 = .ok (.iaload, 1) := by decide +kernel
theorem dL_law_1126 : decode cL_law 1126 = .ok (.invokevirtual 141, 3) := by decide +kernel
theorem dL_law_1129 : decode cL_law 1129 = .ok (.aload_n 2, 1) := by decide +kernel
theorem dL_law_1130 : decode cL_law 1130 = .ok (.aload_n 0, 1) := by decide +kernel
theorem dL_law_1131 : decode cL_law 1131 = .ok (.iload_n 3, 1) := by decide +kernel
theorem dL_law_1132 : decode cL_law 1132 = .ok (.iconst 1, 1) := by decide +kernel
theorem dL_law_1133 : decode cL_law 1133 = .ok (.iadd, 1) := by decide +kernel
theorem dL_law_1134 : decode cL_law 1134 = .ok (.iaload, 1) := by decide +kernel
theorem dL_law_1135 : decode cL_law 1135 = .ok (.invokevirtual 144, 3) := by decide +kernel
theorem dL_law_1138 : decode cL_law 1138 = .ok (.if_icmp .eq 373, 3) := by decide +kernel
theorem dL_law_1141 : decode cL_law 1141 = .ok (.iconst 0, 1) := by decide +kernel
theorem dL_law_1142 : decode cL_law 1142 = .ok (.ireturn, 1) := by decide +kernel
theorem dL_law_1143 : decode cL_law 1143 = .ok (.aload_n 1, 1) := by decide +kernel
theorem dL_law_1144 : decode cL_law 1144 = .ok (.aload_n 0, 1) := by decide +kernel
theorem dL_law_1145 : decode cL_law 1145 = .ok (.iload_n 3, 1) := by decide +kernel
theorem dL_law_1146 : decode cL_law 1146 = .ok (.iconst 1, 1) := by decide +kernel
theorem dL_law_1147 : decode cL_law 1147 = .ok (.iadd, 1) := by decide +kernel
theorem dL_law_1148 : decode cL_law 1148 = .ok (.iaload, 1) := by decide +kernel
theorem dL_law_1149 : decode cL_law 1149 = .ok (.invokevirtual 145, 3) := by decide +kernel
theorem dL_law_1152 : decode cL_law 1152 = .ok (.aload_n 2, 1) := by decide +kernel
theorem dL_law_1153 : decode cL_law 1153 = .ok (.aload_n 0, 1) := by decide +kernel
theorem dL_law_1154 : decode cL_law 1154 = .ok (.iload_n 3, 1) := by decide +kernel
theorem dL_law_1155 : decode cL_law 1155 = .ok (.iconst 1, 1) := by decide +kernel
theorem dL_law_1156 : decode cL_law 1156 = .ok (.iadd, 1) := by decide +kernel
theorem dL_law_1157 : decode cL_law 1157 = .ok (.iaload, 1) := by decide +kernel
theorem dL_law_1158 : decode cL_law 1158 = .ok (.invokevirtual 148, 3) := by decide +kernel
theorem dL_law_1161 : decode cL_law 1161 = .ok (.if_icmp .eq 350, 3) := by decide +kernel
theorem dL_law_1164 : decode cL_law 1164 = .ok (.iconst 0, 1) := by decide +kernel
theorem dL_law_1165 : decode cL_law 1165 = .ok (.ireturn, 1) := by decide +kernel
theorem dL_law_1166 : decode cL_law 1166 = .ok (.aload_n 1, 1) := by decide +kernel
theorem dL_law_1167 : decode cL_law 1167 = .ok (.aload_n 0, 1) := by decide +kernel
theorem dL_law_1168 : decode cL_law 1168 = .ok (.iload_n 3, 1) := by decide +kernel
theorem dL_law_1169 : decode cL_law 1169 = .ok (.iconst 1, 1) := by decide +kernel
theorem dL_law_1170 : decode cL_law 1170 = .ok (.iadd, 1) := by decide +kernel
theorem dL_law_1171 : decode cL_law 1171 = .ok (.iaload, 1) := by decide +kernel
theorem dL_law_1172 : decode cL_law 1172 = .ok (.invokevirtual 149, 3) := by decide +kernel
theorem dL_law_1175 : decode cL_law 1175 = .ok (.aload_n 2, 1) := by decide +kernel
theorem dL_law_1176 : decode cL_law 1176 = .ok (.aload_n 0, 1) := by decide +kernel
theorem dL_law_1177 : decode cL_law 1177 = .ok (.iload_n 3, 1) := by decide +kernel
theorem dL_law_1178 : decode cL_law 1178 = .ok (.iconst 1, 1) := by decide +kernel
theorem dL_law_1179 : decode cL_law 1179 = .ok (.iadd, 1) := by decide +kernel
theorem dL_law_1180 : decode cL_law 1180 = .ok (.iaload, 1) := by decide +kernel
theorem dL_law_1181 : decode cL_law 1181 = .ok (.invokevirtual 152, 3) := by decide +kernel
theorem dL_law_1184 : decode cL_law 1184 = .ok (.if_icmp .eq 327, 3) := by decide +kernel
theorem dL_law_1187 : decode cL_law 1187 = .ok (.iconst 0, 1) := by decide +kernel
theorem dL_law_1188 : decode cL_law 1188 = .ok (.ireturn, 1) := by decide +kernel
theorem dL_law_1189 : decode cL_law 1189 = .ok (.aload_n 1, 1) := by decide +kernel
theorem dL_law_1190 : decode cL_law 1190 = .ok (.aload_n 0, 1) := by decide +kernel
theorem dL_law_1191 : decode cL_law 1191 = .ok (.iload_n 3, 1) := by decide +kernel
theorem dL_law_1192 : decode cL_law 1192 = .ok (.iconst 1, 1) := by decide +kernel
theorem dL_law_1193 : decode cL_law 1193 = .ok (.iadd, 1) := by decide +kernel
theorem dL_law_1194 : decode cL_law 1194 = .ok (.iaload, 1) := by decide +kernel
theorem dL_law_1195 : decode cL_law 1195 = .ok (.aload_n 0, 1) := by decide +kernel
theorem dL_law_1196 : decode cL_law 1196 = .ok (.iload_n 3, 1) := by decide +kernel
theorem dL_law_1197 : decode cL_law 1197 = .ok (.iconst 2, 1) := by decide +kernel
theorem dL_law_1198 : decode cL_law 1198 = .ok (.iadd, 1) := by decide +kernel
theorem dL_law_1199 : decode cL_law 1199 = .ok (.iaload, 1) := by decide +kernel
theorem dL_law_1200 : decode cL_law 1200 = .ok (.invokevirtual 153, 3) := by decide +kernel
theorem dL_law_1203 : decode cL_law 1203 = .ok (.aload_n 2, 1) := by decide +kernel
theorem dL_law_1204 : decode cL_law 1204 = .ok (.aload_n 0, 1) := by decide +kernel
theorem dL_law_1205 : decode cL_law 1205 = .ok (.iload_n 3, 1) := by decide +kernel
theorem dL_law_1206 : decode cL_law 1206 = .ok (.iconst 1, 1) := by decide +kernel
theorem dL_law_1207 : decode cL_law 1207 = .ok (.iadd, 1) := by decide +kernel
theorem dL_law_1208 : decode cL_law 1208 = .ok (.iaload, 1) := by decide +kernel
theorem dL_law_1209 : decode cL_law 1209 = .ok (.aload_n 0, 1) := by decide +kernel
theorem dL_law_1210 : decode cL_law 1210 = .ok (.iload_n 3, 1) := by decide +kernel
theorem dL_law_1211 : decode cL_law 1211 = .ok (.iconst 2, 1) := by decide +kernel
theorem dL_law_1212 : decode cL_law 1212 = .ok (.iadd, 1) := by decide +kernel
theorem dL_law_1213 : decode cL_law 1213 = .ok (.iaload, 1) := by decide +kernel
theorem dL_law_1214 : decode cL_law 1214 = .ok (.invokevirtual 156, 3) := by decide +kernel
theorem dL_law_1217 : decode cL_law 1217 = .ok (.if_icmp .eq 294, 3) := by decide +kernel
theorem dL_law_1220 : decode cL_law 1220 = .ok (.iconst 0, 1) := by decide +kernel
theorem dL_law_1221 : decode cL_law 1221 = .ok (.ireturn, 1) := by decide +kernel
theorem dL_law_1222 : decode cL_law 1222 = .ok (.aload_n 1, 1) := by decide +kernel
theorem dL_law_1223 : decode cL_law 1223 = .ok (.aload_n 0, 1) := by decide +kernel
theorem dL_law_1224 : decode cL_law 1224 = .ok (.iload_n 3, 1) := by decide +kernel
theorem dL_law_1225 : decode cL_law 1225 = .ok (.iconst 1, 1) := by decide +kernel
theorem dL_law_1226 : decode cL_law 1226 = .ok (.iadd, 1) := by decide +kernel
theorem dL_law_1227 : decode cL_law 1227 = .ok (.iaload, 1) := by decide +kernel
theorem dL_law_1228 : decode cL_law 1228 = .ok (.invokevirtual 157, 3) := by decide +kernel
theorem dL_law_1231 : decode cL_law 1231 = .ok (.aload_n 2, 1) := by decide +kernel
theorem dL_law_1232 : decode cL_law 1232 = .ok (.aload_n 0, 1) := by decide +kernel
theorem dL_law_1233 : decode cL_law 1233 = .ok (.iload_n 3, 1) := by decide +kernel
theorem dL_law_1234 : decode cL_law 1234 = .ok (.iconst 1, 1) := by decide +kernel
theorem dL_law_1235 : decode cL_law 1235 = .ok (.iadd, 1) := by decide +kernel
theorem dL_law_1236 : decode cL_law 1236 = .ok (.iaload, 1) := by decide +kernel
theorem dL_law_1237 : decode cL_law 1237 = .ok (.invokevirtual 160, 3) := by decide +kernel
theorem dL_law_1240 : decode cL_law 1240 = .ok (.if_icmp .eq 271, 3) := by decide +kernel
theorem dL_law_1243 : decode cL_law 1243 = .ok (.iconst 0, 1) := by decide +kernel
theorem dL_law_1244 : decode cL_law 1244 = .ok (.ireturn, 1) := by decide +kernel
theorem dL_law_1245 : decode cL_law 1245 = .ok (.aload_n 1, 1) := by decide +kernel
theorem dL_law_1246 : decode cL_law 1246 = .ok (.aload_n 0, 1) := by decide +kernel
theorem dL_law_1247 : decode cL_law 1247 = .ok (.iload_n 3, 1) := by decide +kernel
theorem dL_law_1248 : decode cL_law 1248 = .ok (.iconst 1, 1) := by decide +kernel
theorem dL_law_1249 : decode cL_law 1249 = .ok (.iadd, 1) := by decide +kernel
theorem dL_law_1250 : decode cL_law 1250 = .ok (.iaload, 1) := by decide +kernel
theorem dL_law_1251 : decode cL_law 1251 = .ok (.invokevirtual 161, 3) := by decide +kernel
theorem dL_law_1254 : decode cL_law 1254 = .ok (.aload_n 2, 1) := by decide +kernel
theorem dL_law_1255 : decode cL_law 1255 = .ok (.aload_n 0, 1) := by decide +kernel
theorem dL_law_1256 : decode cL_law 1256 = .ok (.iload_n 3, 1) := by decide +kernel
theorem dL_law_1257 : decode cL_law 1257 = .ok (.iconst 1, 1) := by decide +kernel
theorem dL_law_1258 : decode cL_law 1258 = .ok (.iadd, 1) := by decide +kernel
theorem dL_law_1259 : decode cL_law 1259 = .ok (.iaload, 1) := by decide +kernel
theorem dL_law_1260 : decode cL_law 1260 = .ok (.invokevirtual 164, 3) := by decide +kernel
theorem dL_law_1263 : decode cL_law 1263 = .ok (.if_icmp .eq 248, 3) := by decide +kernel
theorem dL_law_1266 : decode cL_law 1266 = .ok (.iconst 0, 1) := by decide +kernel
theorem dL_law_1267 : decode cL_law 1267 = .ok (.ireturn, 1) := by decide +kernel
theorem dL_law_1268 : decode cL_law 1268 = .ok (.aload_n 1, 1) := by decide +kernel
theorem dL_law_1269 : decode cL_law 1269 = .ok (.aload_n 0, 1) := by decide +kernel
theorem dL_law_1270 : decode cL_law 1270 = .ok (.iload_n 3, 1) := by decide +kernel
theorem dL_law_1271 : decode cL_law 1271 = .ok (.iconst 1, 1) := by decide +kernel
theorem dL_law_1272 : decode cL_law 1272 = .ok (.iadd, 1) := by decide +kernel
theorem dL_law_1273 : decode cL_law 1273 = .ok (.iaload, 1) := by decide +kernel
theorem dL_law_1274 : decode cL_law 1274 = .ok (.aload_n 0, 1) := by decide +kernel
theorem dL_law_1275 : decode cL_law 1275 = .ok (.iload_n 3, 1) := by decide +kernel
theorem dL_law_1276 : decode cL_law 1276 = .ok (.iconst 2, 1) := by decide +kernel
theorem dL_law_1277 : decode cL_law 1277 = .ok (.iadd, 1) := by decide +kernel
theorem dL_law_1278 : decode cL_law 1278 = .ok (.iaload, 1) := by decide +kernel
theorem dL_law_1279 : decode cL_law 1279 = .ok (.aload_n 0, 1) := by decide +kernel
theorem dL_law_1280 : decode cL_law 1280 = .ok (.iload_n 3, 1) := by decide +kernel
theorem dL_law_1281 : decode cL_law 1281 = .ok (.iconst 3, 1) := by decide +kernel
theorem dL_law_1282 : decode cL_law 1282 = .ok (.iadd, 1) := by decide +kernel
theorem dL_law_1283 : decode cL_law 1283 = .ok (.iaload, 1) := by decide +kernel
theorem dL_law_1284 : decode cL_law 1284 = .ok (.ifCond .eq 7, 3) := by decide +kernel
theorem dL_law_1287 : decode cL_law 1287 = .ok (.iconst 1, 1) := by decide +kernel
theorem dL_law_1288 : decode cL_law 1288 = .ok (.goto 4, 3) := by decide +kernel
theorem dL_law_1291 : decode cL_law 1291 = .ok (.iconst 0, 1) := by decide +kernel
theorem dL_law_1292 : decode cL_law 1292 = .ok (.invokevirtual 165, 3) := by decide +kernel
theorem dL_law_1295 : decode cL_law 1295 = .ok (.aload_n 2, 1) := by decide +kernel
theorem dL_law_1296 : decode cL_law 1296 = .ok (.aload_n 0, 1) := by decide +kernel
theorem dL_law_1297 : decode cL_law 1297 = .ok (.iload_n 3, 1) := by decide +kernel
theorem dL_law_1298 : decode cL_law 1298 = .ok (.iconst 1, 1) := by decide +kernel
theorem dL_law_1299 : decode cL_law 1299 = .ok (.iadd, 1) := by decide +kernel
theorem dL_law_1300 : decode cL_law 1300 = .ok (.iaload, 1) := by decide +kernel
theorem dL_law_1301 : decode cL_law 1301 = .ok (.aload_n 0, 1) := by decide +kernel
theorem dL_law_1302 : decode cL_law 1302 = .ok (.iload_n 3, 1) := by decide +kernel
theorem dL_law_1303 : decode cL_law 1303 = .ok (.iconst 2, 1) := by decide +kernel
theorem dL_law_1304 : decode cL_law 1304 = .ok (.iadd, 1) := by decide +kernel
theorem dL_law_1305 : decode cL_law 1305 = .ok (.iaload, 1) := by decide +kernel
theorem dL_law_1306 : decode cL_law 1306 = .ok (.aload_n 0, 1) := by decide +kernel
theorem dL_law_1307 : decode cL_law 1307 = .ok (.iload_n 3, 1) := by decide +kernel
theorem dL_law_1308 : decode cL_law 1308 = .ok (.iconst 3, 1) := by decide +kernel
theorem dL_law_1309 : decode cL_law 1309 = .ok (.iadd, 1) := by decide +kernel
theorem dL_law_1310 : decode cL_law 1310 = .ok (.iaload, 1) := by decide +kernel
theorem dL_law_1311 : decode cL_law 1311 = .ok (.ifCond .eq 7, 3) := by decide +kernel
theorem dL_law_1314 : decode cL_law 1314 = .ok (.iconst 1, 1) := by decide +kernel
theorem dL_law_1315 : decode cL_law 1315 = .ok (.goto 4, 3) := by decide +kernel
theorem dL_law_1318 : decode cL_law 1318 = .ok (.iconst 0, 1) := by decide +kernel
theorem dL_law_1319 : decode cL_law 1319 = .ok (.invokevirtual 169, 3) := by decide +kernel
theorem dL_law_1322 : decode cL_law 1322 = .ok (.if_icmp .eq 189, 3) := by decide +kernel
theorem dL_law_1325 : decode cL_law 1325 = .ok (.iconst 0, 1) := by decide +kernel
theorem dL_law_1326 : decode cL_law 1326 = .ok (.ireturn, 1) := by decide +kernel
theorem dL_law_1327 : decode cL_law 1327 = .ok (.aload_n 1, 1) := by decide +kernel
theorem dL_law_1328 : decode cL_law 1328 = .ok (.aload_n 0, 1) := by decide +kernel
theorem dL_law_1329 : decode cL_law 1329 = .ok (.iload_n 3, 1) := by decide +kernel
theorem dL_law_1330 : decode cL_law 1330 = .ok (.iconst 1, 1) := by decide +kernel
theorem dL_law_1331 : decode cL_law 1331 = .ok (.iadd, 1) := by decide +kernel
theorem dL_law_1332 : decode cL_law 1332 = .ok (.iaload, 1) := by decide +kernel
theorem dL_law_1333 : decode cL_law 1333 = .ok (.invokevirtual 170, 3) := by decide +kernel
theorem dL_law_1336 : decode cL_law 1336 = .ok (.aload_n 2, 1) := by decide +kernel
theorem dL_law_1337 : decode cL_law 1337 = .ok (.aload_n 0, 1) := by decide +kernel
theorem dL_law_1338 : decode cL_law 1338 = .ok (.iload_n 3, 1) := by decide +kernel
theorem dL_law_1339 : decode cL_law 1339 = .ok (.iconst 1, 1) := by decide +kernel
theorem dL_law_1340 : decode cL_law 1340 = .ok (.iadd, 1) := by decide +kernel
theorem dL_law_1341 : decode cL_law 1341 = .ok (.iaload, 1) := by decide +kernel
theorem dL_law_1342 : decode cL_law 1342 = .ok (.invokevirtual 173, 3) := by decide +kernel
theorem dL_law_1345 : decode cL_law 1345 = .ok (.if_icmp .eq 166, 3) := by decide +kernel
theorem dL_law_1348 : decode cL_law 1348 = .ok (.iconst 0, 1) := by decide +kernel
theorem dL_law_1349 : decode cL_law 1349 = .ok (.ireturn, 1) := by decide +kernel
theorem dL_law_1350 : decode cL_law 1350 = .ok (.aload_n 1, 1) := by decide +kernel
theorem dL_law_1351 : decode cL_law 1351 = .ok (.aload_n 0, 1) := by decide +kernel
theorem dL_law_1352 : decode cL_law 1352 = .ok (.iload_n 3, 1) := by decide +kernel
theorem dL_law_1353 : decode cL_law 1353 = .ok (.iconst 1, 1) := by decide +kernel
theorem dL_law_1354 : decode cL_law 1354 = .ok (.iadd, 1) := by decide +kernel
theorem dL_law_1355 : decode cL_law 1355 = .ok (.iaload, 1) := by decide +kernel
theorem dL_law_1356 : decode cL_law 1356 = .ok (.aload_n 0, 1) := by decide +kernel
theorem dL_law_1357 : decode cL_law 1357 = .ok (.iload_n 3, 1) := by decide +kernel
theorem dL_law_1358 : decode cL_law 1358 = .ok (.iconst 2, 1) := by decide +kernel
theorem dL_law_1359 : decode cL_law 1359 = .ok (.iadd, 1) := by decide +kernel
theorem dL_law_1360 : decode cL_law 1360 = .ok (.iaload, 1) := by decide +kernel
theorem dL_law_1361 : decode cL_law 1361 = .ok (.aload_n 0, 1) := by decide +kernel
theorem dL_law_1362 : decode cL_law 1362 = .ok (.iload_n 3, 1) := by decide +kernel
theorem dL_law_1363 : decode cL_law 1363 = .ok (.iconst 3, 1) := by decide +kernel
theorem dL_law_1364 : decode cL_law 1364 = .ok (.iadd, 1) := by decide +kernel
theorem dL_law_1365 : decode cL_law 1365 = .ok (.iaload, 1) := by decide +kernel
theorem dL_law_1366 : decode cL_law 1366 = .ok (.invokevirtual 174, 3) := by decide +kernel
theorem dL_law_1369 : decode cL_law 1369 = .ok (.aload_n 2, 1) := by decide +kernel
theorem dL_law_1370 : decode cL_law 1370 = .ok (.aload_n 0, 1) := by decide +kernel
theorem dL_law_1371 : decode cL_law 1371 = .ok (.iload_n 3, 1) := by decide +kernel
theorem dL_law_1372 : decode cL_law 1372 = .ok (.iconst 1, 1) := by decide +kernel
theorem dL_law_1373 : decode cL_law 1373 = .ok (.iadd, 1) := by decide +kernel
theorem dL_law_1374 : decode cL_law 1374 = .ok (.iaload, 1) := by decide +kernel
theorem dL_law_1375 : decode cL_law 1375 = .ok (.aload_n 0, 1) := by decide +kernel
theorem dL_law_1376 : decode cL_law 1376 = .ok (.iload_n 3, 1) := by decide +kernel
theorem dL_law_1377 : decode cL_law 1377 = .ok (.iconst 2, 1) := by decide +kernel
theorem dL_law_1378 : decode cL_law 1378 = .ok (.iadd, 1) := by decide +kernel
theorem dL_law_1379 : decode cL_law 1379 = .ok (.iaload, 1) := by decide +kernel
theorem dL_law_1380 : decode cL_law 1380 = .ok (.aload_n 0, 1) := by decide +kernel
theorem dL_law_1381 : decode cL_law 1381 = .ok (.iload_n 3, 1) := by decide +kernel
theorem dL_law_1382 : decode cL_law 1382 = .ok (.iconst 3, 1) := by decide +kernel
theorem dL_law_1383 : decode cL_law 1383 = .ok (.iadd, 1) := by decide +kernel
theorem dL_law_1384 : decode cL_law 1384 = .ok (.iaload, 1) := by decide +kernel
theorem dL_law_1385 : decode cL_law 1385 = .ok (.invokevirtual 177, 3) := by decide +kernel
theorem dL_law_1388 : decode cL_law 1388 = .ok (.if_icmp .eq 123, 3) := by decide +kernel
theorem dL_law_1391 : decode cL_law 1391 = .ok (.iconst 0, 1) := by decide +kernel
theorem dL_law_1392 : decode cL_law 1392 = .ok (.ireturn, 1) := by decide +kernel
theorem dL_law_1393 : decode cL_law 1393 = .ok (.aload_n 1, 1) := by decide +kernel
theorem dL_law_1394 : decode cL_law 1394 = .ok (.aload_n 0, 1) := by decide +kernel
theorem dL_law_1395 : decode cL_law 1395 = .ok (.iload_n 3, 1) := by decide +kernel
theorem dL_law_1396 : decode cL_law 1396 = .ok (.iconst 1, 1) := by decide +kernel
theorem dL_law_1397 : decode cL_law 1397 = .ok (.iadd, 1) := by decide +kernel
theorem dL_law_1398 : decode cL_law 1398 = .ok (.iaload, 1) := by decide +kernel
theorem dL_law_1399 : decode cL_law 1399 = .ok (.aload_n 0, 1) := by decide +kernel
theorem dL_law_1400 : decode cL_law 1400 = .ok (.iload_n 3, 1) := by decide +kernel
theorem dL_law_1401 : decode cL_law 1401 = .ok (.iconst 2, 1) := by decide +kernel
theorem dL_law_1402 : decode cL_law 1402 = .ok (.iadd, 1) := by decide +kernel
theorem dL_law_1403 : decode cL_law 1403 = .ok (.iaload, 1) := by decide +kernel
theorem dL_law_1404 : decode cL_law 1404 = .ok (.aload_n 0, 1) := by decide +kernel
theorem dL_law_1405 : decode cL_law 1405 = .ok (.iload_n 3, 1) := by decide +kernel
theorem dL_law_1406 : decode cL_law 1406 = .ok (.iconst 3, 1) := by decide +kernel
theorem dL_law_1407 : decode cL_law 1407 = .ok (.iadd, 1) := by decide +kernel
theorem dL_law_1408 : decode cL_law 1408 = .ok (.iaload, 1) := by decide +kernel
theorem dL_law_1409 : decode cL_law 1409 = .ok (.invokevirtual 178, 3) := by decide +kernel
theorem dL_law_1412 : decode cL_law 1412 = .ok (.aload_n 2, 1) := by decide +kernel
theorem dL_law_1413 : decode cL_law 1413 = .ok (.aload_n 0, 1) := by decide +kernel
theorem dL_law_1414 : decode cL_law 1414 = .ok (.iload_n 3, 1) := by decide +kernel
theorem dL_law_1415 : decode cL_law 1415 = .ok (.iconst 1, 1) := by decide +kernel
theorem dL_law_1416 : decode cL_law 1416 = .ok (.iadd, 1) := by decide +kernel
theorem dL_law_1417 : decode cL_law 1417 = .ok (.iaload, 1) := by decide +kernel
theorem dL_law_1418 : decode cL_law 1418 = .ok (.aload_n 0, 1) := by decide +kernel
theorem dL_law_1419 : decode cL_law 1419 = .ok (.iload_n 3, 1) := by decide +kernel
theorem dL_law_1420 : decode cL_law 1420 = .ok (.iconst 2, 1) := by decide +kernel
theorem dL_law_1421 : decode cL_law 1421 = .ok (.iadd, 1) := by decide +kernel
theorem dL_law_1422 : decode cL_law 1422 = .ok (.iaload, 1) := by decide +kernel
theorem dL_law_1423 : decode cL_law 1423 = .ok (.aload_n 0, 1) := by decide +kernel
theorem dL_law_1424 : decode cL_law 1424 = .ok (.iload_n 3, 1) := by decide +kernel
theorem dL_law_1425 : decode cL_law 1425 = .ok (.iconst 3, 1) := by decide +kernel
theorem dL_law_1426 : decode cL_law 1426 = .ok (.iadd, 1) := by decide +kernel
theorem dL_law_1427 : decode cL_law 1427 = .ok (.iaload, 1) := by decide +kernel
theorem dL_law_1428 : decode cL_law 1428 = .ok (.invokevirtual 181, 3) := by decide +kernel
theorem dL_law_1431 : decode cL_law 1431 = .ok (.if_icmp .eq 80, 3) := by decide +kernel
theorem dL_law_1434 : decode cL_law 1434 = .ok (.iconst 0, 1) := by decide +kernel
theorem dL_law_1435 : decode cL_law 1435 = .ok (.ireturn, 1) := by decide +kernel
theorem dL_law_1436 : decode cL_law 1436 = .ok (.aload_n 1, 1) := by decide +kernel
theorem dL_law_1437 : decode cL_law 1437 = .ok (.invokevirtual 182, 3) := by decide +kernel
theorem dL_law_1440 : decode cL_law 1440 = .ok (.aload_n 2, 1) := by decide +kernel
theorem dL_law_1441 : decode cL_law 1441 = .ok (.invokevirtual 186, 3) := by decide +kernel
theorem dL_law_1444 : decode cL_law 1444 = .ok (.if_icmp .eq 67, 3) := by decide +kernel
theorem dL_law_1447 : decode cL_law 1447 = .ok (.iconst 0, 1) := by decide +kernel
theorem dL_law_1448 : decode cL_law 1448 = .ok (.ireturn, 1) := by decide +kernel
theorem dL_law_1449 : decode cL_law 1449 = .ok (.aload_n 1, 1) := by decide +kernel
theorem dL_law_1450 : decode cL_law 1450 = .ok (.aload_n 0, 1) := by decide +kernel
theorem dL_law_1451 : decode cL_law 1451 = .ok (.iload_n 3, 1) := by decide +kernel
theorem dL_law_1452 : decode cL_law 1452 = .ok (.iconst 1, 1) := by decide +kernel
theorem dL_law_1453 : decode cL_law 1453 = .ok (.iadd, 1) := by decide +kernel
theorem dL_law_1454 : decode cL_law 1454 = .ok (.iaload, 1) := by decide +kernel
theorem dL_law_1455 : decode cL_law 1455 = .ok (.ifCond .eq 7, 3) := by decide +kernel
theorem dL_law_1458 : decode cL_law 1458 = .ok (.iconst 1, 1) := by decide +kernel
theorem dL_law_1459 : decode cL_law 1459 = .ok (.goto 4, 3) := by decide +kernel
theorem dL_law_1462 : decode cL_law 1462 = .ok (.iconst 0, 1) := by decide +kernel
theorem dL_law_1463 : decode cL_law 1463 = .ok (.invokevirtual 187, 3) := by decide +kernel
theorem dL_law_1466 : decode cL_law 1466 = .ok (.aload_n 2, 1) := by decide +kernel
theorem dL_law_1467 : decode cL_law 1467 = .ok (.aload_n 0, 1) := by decide +kernel
theorem dL_law_1468 : decode cL_law 1468 = .ok (.iload_n 3, 1) := by decide +kernel
theorem dL_law_1469 : decode cL_law 1469 = .ok (.iconst 1, 1) := by decide +kernel
theorem dL_law_1470 : decode cL_law 1470 = .ok (.iadd, 1) := by decide +kernel
theorem dL_law_1471 : decode cL_law 1471 = .ok (.iaload, 1) := by decide +kernel
theorem dL_law_1472 : decode cL_law 1472 = .ok (.ifCond .eq 7, 3) := by decide +kernel
theorem dL_law_1475 : decode cL_law 1475 = .ok (.iconst 1, 1) := by decide +kernel
theorem dL_law_1476 : decode cL_law 1476 = .ok (.goto 4, 3) := by decide +kernel
theorem dL_law_1479 : decode cL_law 1479 = .ok (.iconst 0, 1) := by decide +kernel
theorem dL_law_1480 : decode cL_law 1480 = .ok (.invokevirtual 191, 3) := by decide +kernel
theorem dL_law_1483 : decode cL_law 1483 = .ok (.if_icmp .eq 28, 3) := by decide +kernel
theorem dL_law_1486 : decode cL_law 1486 = .ok (.iconst 0, 1) := by decide +kernel
theorem dL_law_1487 : decode cL_law 1487 = .ok (.ireturn, 1) := by decide +kernel
theorem dL_law_1488 : decode cL_law 1488 = .ok (.aload_n 1, 1) := by decide +kernel
theorem dL_law_1489 : decode cL_law 1489 = .ok (.aload_n 0, 1) := by decide +kernel
theorem dL_law_1490 : decode cL_law 1490 = .ok (.iload_n 3, 1) := by decide +kernel
theorem dL_law_1491 : decode cL_law 1491 = .ok (.iconst 1, 1) := by decide +kernel
theorem dL_law_1492 : decode cL_law 1492 = .ok (.iadd, 1) := by decide +kernel
theorem dL_law_1493 : decode cL_law 1493 = .ok (.iaload, 1) := by decide +kernel
theorem dL_law_1494 : decode cL_law 1494 = .ok (.invokevirtual 192, 3) := by decide +kernel
theorem dL_law_1497 : decode cL_law 1497 = .ok (.aload_n 2, 1) := by decide +kernel
theorem dL_law_1498 : decode cL_law 1498 = .ok (.aload_n 0, 1) := by decide +kernel
theorem dL_law_1499 : decode cL_law 1499 = .ok (.iload_n 3, 1) := by decide +kernel
theorem dL_law_1500 : decode cL_law 1500 = .ok (.iconst 1, 1) := by decide +kernel
theorem dL_law_1501 : decode cL_law 1501 = .ok (.iadd, 1) := by decide +kernel
theorem dL_law_1502 : decode cL_law 1502 = .ok (.iaload, 1) := by decide +kernel
theorem dL_law_1503 : decode cL_law 1503 = .ok (.invokevirtual 195, 3) := by decide +kernel
theorem dL_law_1506 : decode cL_law 1506 = .ok (.if_icmp .eq 5, 3) := by decide +kernel
theorem dL_law_1509 : decode cL_law 1509 = .ok (.iconst 0, 1) := by decide +kernel
theorem dL_law_1510 : decode cL_law 1510 = .ok (.ireturn, 1) := by decide +kernel
theorem dL_law_1511 : decode cL_law 1511 = .ok (.iinc 3 6, 3) := by decide +kernel
theorem dL_law_1514 : decode cL_law 1514 = .ok (.goto (-1496), 3) := by decide +kernel
theorem dL_law_1517 : decode cL_law 1517 = .ok (.iconst 1, 1) := by decide +kernel
theorem dL_law_1518 : decode cL_law 1518 = .ok (.ireturn, 1) := by decide +kernel
