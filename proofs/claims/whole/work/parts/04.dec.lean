theorem dX8_crossedBy_3 : decode cX8_crossedBy 3 = .ok (.invokevirtual 68, 3) := by decide +kernel
theorem dX8_crossedBy_6 : decode cX8_crossedBy 6 = .ok (.aload_n 0, 1) := by decide +kernel
theorem dX8_crossedBy_7 : decode cX8_crossedBy 7 = .ok (.iload_n 1, 1) := by decide +kernel
theorem dX8_crossedBy_8 : decode cX8_crossedBy 8 = .ok (.iconst 1, 1) := by decide +kernel
theorem dX8_crossedBy_9 : decode cX8_crossedBy 9 = .ok (.invokevirtual 68, 3) := by decide +kernel
theorem dX8_crossedBy_12 : decode cX8_crossedBy 12 = .ok (.invokestatic 99, 3) := by decide +kernel
theorem dX8_crossedBy_15 : decode cX8_crossedBy 15 = .ok (.istore_n 2, 1) := by decide +kernel
theorem dX8_crossedBy_16 : decode cX8_crossedBy 16 = .ok (.aload_n 0, 1) := by decide +kernel
theorem dX8_crossedBy_17 : decode cX8_crossedBy 17 = .ok (.iload_n 1, 1) := by decide +kernel
theorem dX8_crossedBy_18 : decode cX8_crossedBy 18 = .ok (.iconst 0, 1) := by decide +kernel
theorem dX8_crossedBy_19 : decode cX8_crossedBy 19 = .ok (.invokevirtual 68, 3) := by decide +kernel
theorem dX8_crossedBy_22 : decode cX8_crossedBy 22 = .ok (.aload_n 0, 1) := by decide +kernel
theorem dX8_crossedBy_23 : decode cX8_crossedBy 23 = .ok (.iload_n 1, 1) := by decide +kernel
theorem dX8_crossedBy_24 : decode cX8_crossedBy 24 = .ok (.iconst 1, 1) := by decide +kernel
theorem dX8_crossedBy_25 : decode cX8_crossedBy 25 = .ok (.invokevirtual 68, 3) := by decide +kernel
theorem dX8_crossedBy_28 : decode cX8_crossedBy 28 = .ok (.invokestatic 102, 3) := by decide +kernel
theorem dX8_crossedBy_31 : decode cX8_crossedBy 31 = .ok (.istore_n 3, 1) := by decide +kernel
theorem dX8_crossedBy_32 : decode cX8_crossedBy 32 = .ok (.iconst 0, 1) := by decide +kernel
theorem dX8_crossedBy_33 : decode cX8_crossedBy 33 = .ok (.istore 4, 2) := by decide +kernel
theorem dX8_crossedBy_35 : decode cX8_crossedBy 35 = .ok (.iconst 0, 1) := by decide +kernel
theorem dX8_crossedBy_36 : decode cX8_crossedBy 36 = .ok (.istore 5, 2) := by decide +kernel
theorem dX8_crossedBy_38 : decode cX8_crossedBy 38 = .ok (.iload 5, 2) := by decide +kernel
theorem dX8_crossedBy_40 : decode cX8_crossedBy 40 = .ok (.aload_n 0, 1) := by decide +kernel
theorem dX8_crossedBy_41 : decode cX8_crossedBy 41 = .ok (.getfield 64, 3) := by decide +kernel
theorem dX8_crossedBy_44 : decode cX8_crossedBy 44 = .ok (.if_icmp .ge 83, 3) := by decide +kernel
theorem dX8_crossedBy_47 : decode cX8_crossedBy 47 = .ok (.aload_n 0, 1) := by decide +kernel
theorem dX8_crossedBy_48 : decode cX8_crossedBy 48 = .ok (.iload 5, 2) := by decide +kernel
theorem dX8_crossedBy_50 : decode cX8_crossedBy 50 = .ok (.iconst 0, 1) := by decide +kernel
theorem dX8_crossedBy_51 : decode cX8_crossedBy 51 = .ok (.invokevirtual 68, 3) := by decide +kernel
theorem dX8_crossedBy_54 : decode cX8_crossedBy 54 = .ok (.iload_n 2, 1) := by decide +kernel
theorem dX8_crossedBy_55 : decode cX8_crossedBy 55 = .ok (.if_icmp .le 18, 3) := by decide +kernel
theorem dX8_crossedBy_58 : decode cX8_crossedBy 58 = .ok (.aload_n 0, 1) := by decide +kernel
theorem dX8_crossedBy_59 : decode cX8_crossedBy 59 = .ok (.iload 5, 2) := by decide +kernel
theorem dX8_crossedBy_61 : decode cX8_crossedBy 61 = .ok (.iconst 0, 1) := by decide +kernel
theorem dX8_crossedBy_62 : decode cX8_crossedBy 62 = .ok (.invokevirtual 68, 3) := by decide +kernel
theorem dX8_crossedBy_65 : decode cX8_crossedBy 65 = .ok (.iload_n 3, 1) := by decide +kernel
theorem dX8_crossedBy_66 : decode cX8_crossedBy 66 = .ok (.if_icmp .ge 7, 3) := by decide +kernel
theorem dX8_crossedBy_69 : decode cX8_crossedBy 69 = .ok (.iconst 1, 1) := by decide +kernel
theorem dX8_crossedBy_70 : decode cX8_crossedBy 70 = .ok (.goto 4, 3) := by decide +kernel
theorem dX8_crossedBy_73 : decode cX8_crossedBy 73 = .ok (.iconst 0, 1) := by decide +kernel
theorem dX8_crossedBy_74 : decode cX8_crossedBy 74 = .ok (.istore 6, 2) := by decide +kernel
theorem dX8_crossedBy_76 : decode cX8_crossedBy 76 = .ok (.aload_n 0, 1) := by decide +kernel
theorem dX8_crossedBy_77 : decode cX8_crossedBy 77 = .ok (.iload 5, 2) := by decide +kernel
theorem dX8_crossedBy_79 : decode cX8_crossedBy 79 = .ok (.iconst 1, 1) := by decide +kernel
theorem dX8_crossedBy_80 : decode cX8_crossedBy 80 = .ok (.invokevirtual 68, 3) := by decide +kernel
theorem dX8_crossedBy_83 : decode cX8_crossedBy 83 = .ok (.iload_n 2, 1) := by decide +kernel
theorem dX8_crossedBy_84 : decode cX8_crossedBy 84 = .ok (.if_icmp .le 18, 3) := by decide +kernel
theorem dX8_crossedBy_87 : decode cX8_crossedBy 87 = .ok (.aload_n 0, 1) := by decide +kernel
theorem dX8_crossedBy_88 : decode cX8_crossedBy 88 = .ok (.iload 5, 2) := by decide +kernel
theorem dX8_crossedBy_90 : decode cX8_crossedBy 90 = .ok (.iconst 1, 1) := by decide +kernel
theorem dX8_crossedBy_91 : decode cX8_crossedBy 91 = .ok (.invokevirtual 68, 3) := by decide +kernel
theorem dX8_crossedBy_94 : decode cX8_crossedBy 94 = .ok (.iload_n 3, 1) := by decide +kernel
theorem dX8_crossedBy_95 : decode cX8_crossedBy 95 = .ok (.if_icmp .ge 7, 3) := by decide +kernel
theorem dX8_crossedBy_98 : decode cX8_crossedBy 98 = .ok (.iconst 1, 1) := by decide +kernel
theorem dX8_crossedBy_99 : decode cX8_crossedBy 99 = .ok (.goto 4, 3) := by decide +kernel
theorem dX8_crossedBy_102 : decode cX8_crossedBy 102 = .ok (.iconst 0, 1) := by decide +kernel
theorem dX8_crossedBy_103 : decode cX8_crossedBy 103 = .ok (.istore 7, 2) := by decide +kernel
theorem dX8_crossedBy_105 : decode cX8_crossedBy 105 = .ok (.iload 6, 2) := by decide +kernel
theorem dX8_crossedBy_107 : decode cX8_crossedBy 107 = .ok (.iload 7, 2) := by decide +kernel
theorem dX8_crossedBy_109 : decode cX8_crossedBy 109 = .ok (.if_icmp .eq 12, 3) := by decide +kernel
theorem dX8_crossedBy_112 : decode cX8_crossedBy 112 = .ok (.iload 4, 2) := by decide +kernel
theorem dX8_crossedBy_114 : decode cX8_crossedBy 114 = .ok (.iconst 1, 1) := by decide +kernel
theorem dX8_crossedBy_115 : decode cX8_crossedBy 115 = .ok (.iload 5, 2) := by decide +kernel
theorem dX8_crossedBy_117 : decode cX8_crossedBy 117 = .ok (.ishl, 1) := by decide +kernel
theorem dX8_crossedBy_118 : decode cX8_crossedBy 118 = .ok (.ior, 1) := by decide +kernel
theorem dX8_crossedBy_119 : decode cX8_crossedBy 119 = .ok (.istore 4, 2) := by decide +kernel
theorem dX8_crossedBy_121 : decode cX8_crossedBy 121 = .ok (.iinc 5 1, 3) := by decide +kernel
theorem dX8_crossedBy_124 : decode cX8_crossedBy 124 = .ok (.goto (-86), 3) := by decide +kernel
theorem dX8_crossedBy_127 : decode cX8_crossedBy 127 = .ok (.iload 4, 2) := by decide +kernel
theorem dX8_crossedBy_129 : decode cX8_crossedBy 129 = .ok (.ireturn, 1) := by decide +kernel
theorem dX8_mostUncrossed_0 : decode cX8_mostUncrossed 0 = .ok (.aload_n 0, 1) := by decide +kernel
theorem dX8_mostUncrossed_1 : decode cX8_mostUncrossed 1 = .ok (.getfield 27, 3) := by decide +kernel
theorem dX8_mostUncrossed_4 : decode cX8_mostUncrossed 4 = .ok (.iconst 0, 1) := by decide +kernel
theorem dX8_mostUncrossed_5 : decode cX8_mostUncrossed 5 = .ok (.iconst 0, 1) := by decide +kernel
theorem dX8_mostUncrossed_6 : decode cX8_mostUncrossed 6 = .ok (.invokestatic 105, 3) := by decide +kernel
theorem dX8_mostUncrossed_9 : decode cX8_mostUncrossed 9 = .ok (.ireturn, 1) := by decide +kernel
theorem dX8_mostOf_0 : decode cX8_mostOf 0 = .ok (.iload_n 1, 1) := by decide +kernel
theorem dX8_mostOf_1 : decode cX8_mostOf 1 = .ok (.aload_n 0, 1) := by decide +kernel
theorem dX8_mostOf_2 : decode cX8_mostOf 2 = .ok (.getfield 64, 3) := by decide +kernel
theorem dX8_mostOf_5 : decode cX8_mostOf 5 = .ok (.if_icmp .lt 5, 3) := by decide +kernel
theorem dX8_mostOf_8 : decode cX8_mostOf 8 = .ok (.iconst 0, 1) := by decide +kernel
theorem dX8_mostOf_9 : decode cX8_mostOf 9 = .ok (.ireturn, 1) := by decide +kernel
theorem dX8_mostOf_10 : decode cX8_mostOf 10 = .ok (.aload_n 0, 1) := by decide +kernel
theorem dX8_mostOf_11 : decode cX8_mostOf 11 = .ok (.iload_n 1, 1) := by decide +kernel
theorem dX8_mostOf_12 : decode cX8_mostOf 12 = .ok (.iconst 1, 1) := by decide +kernel
theorem dX8_mostOf_13 : decode cX8_mostOf 13 = .ok (.iadd, 1) := by decide +kernel
theorem dX8_mostOf_14 : decode cX8_mostOf 14 = .ok (.iload_n 2, 1) := by decide +kernel
theorem dX8_mostOf_15 : decode cX8_mostOf 15 = .ok (.invokestatic 105, 3) := by decide +kernel
theorem dX8_mostOf_18 : decode cX8_mostOf 18 = .ok (.istore_n 3, 1) := by decide +kernel
theorem dX8_mostOf_19 : decode cX8_mostOf 19 = .ok (.iload_n 2, 1) := by decide +kernel
theorem dX8_mostOf_20 : decode cX8_mostOf 20 = .ok (.iload_n 1, 1) := by decide +kernel
theorem dX8_mostOf_21 : decode cX8_mostOf 21 = .ok (.ishr, 1) := by decide +kernel
theorem dX8_mostOf_22 : decode cX8_mostOf 22 = .ok (.iconst 1, 1) := by decide +kernel
theorem dX8_mostOf_23 : decode cX8_mostOf 23 = .ok (.iand, 1) := by decide +kernel
theorem dX8_mostOf_24 : decode cX8_mostOf 24 = .ok (.ifCond .eq 5, 3) := by decide +kernel
theorem dX8_mostOf_27 : decode cX8_mostOf 27 = .ok (.iload_n 3, 1) := by decide +kernel
theorem dX8_mostOf_28 : decode cX8_mostOf 28 = .ok (.ireturn, 1) := by decide +kernel
theorem dX8_mostOf_29 : decode cX8_mostOf 29 = .ok (.iload_n 3, 1) := by decide +kernel
theorem dX8_mostOf_30 : decode cX8_mostOf 30 = .ok (.iconst 1, 1) := by decide +kernel
theorem dX8_mostOf_31 : decode cX8_mostOf 31 = .ok (.aload_n 0, 1) := by decide +kernel
theorem dX8_mostOf_32 : decode cX8_mostOf 32 = .ok (.iload_n 1, 1) := by decide +kernel
theorem dX8_mostOf_33 : decode cX8_mostOf 33 = .ok (.iconst 1, 1) := by decide +kernel
theorem dX8_mostOf_34 : decode cX8_mostOf 34 = .ok (.iadd, 1) := by decide +kernel
theorem dX8_mostOf_35 : decode cX8_mostOf 35 = .ok (.iload_n 2, 1) := by decide +kernel
theorem dX8_mostOf_36 : decode cX8_mostOf 36 = .ok (.aload_n 0, 1) := by decide +kernel
theorem dX8_mostOf_37 : decode cX8_mostOf 37 = .ok (.iload_n 1, 1) := by decide +kernel
theorem dX8_mostOf_38 : decode cX8_mostOf 38 = .ok (.invokestatic 90, 3) := by decide +kernel
theorem dX8_mostOf_41 : decode cX8_mostOf 41 = .ok (.ior, 1) := by decide +kernel
theorem dX8_mostOf_42 : decode cX8_mostOf 42 = .ok (.invokestatic 105, 3) := by decide +kernel
theorem dX8_mostOf_45 : decode cX8_mostOf 45 = .ok (.iadd, 1) := by decide +kernel
theorem dX8_mostOf_46 : decode cX8_mostOf 46 = .ok (.invokestatic 102, 3) := by decide +kernel
theorem dX8_mostOf_49 : decode cX8_mostOf 49 = .ok (.ireturn, 1) := by decide +kernel
theorem dX8_roundSteps_0 : decode cX8_roundSteps 0 = .ok (.aload_n 0, 1) := by decide +kernel
theorem dX8_roundSteps_1 : decode cX8_roundSteps 1 = .ok (.getfield 30, 3) := by decide +kernel
theorem dX8_roundSteps_4 : decode cX8_roundSteps 4 = .ok (.getfield 64, 3) := by decide +kernel
theorem dX8_roundSteps_7 : decode cX8_roundSteps 7 = .ok (.iconst 2, 1) := by decide +kernel
theorem dX8_roundSteps_8 : decode cX8_roundSteps 8 = .ok (.if_icmp .ge 7, 3) := by decide +kernel
theorem dX8_roundSteps_11 : decode cX8_roundSteps 11 = .ok (.iconst 0, 1) := by decide +kernel
theorem dX8_roundSteps_12 : decode cX8_roundSteps 12 = .ok (.goto 27, 3) := by decide +kernel
theorem dX8_roundSteps_15 : decode cX8_roundSteps 15 = .ok (.aload_n 0, 1) := by decide +kernel
theorem dX8_roundSteps_16 : decode cX8_roundSteps 16 = .ok (.getfield 30, 3) := by decide +kernel
theorem dX8_roundSteps_19 : decode cX8_roundSteps 19 = .ok (.iconst 0, 1) := by decide +kernel
theorem dX8_roundSteps_20 : decode cX8_roundSteps 20 = .ok (.iconst 1, 1) := by decide +kernel
theorem dX8_roundSteps_21 : decode cX8_roundSteps 21 = .ok (.aload_n 0, 1) := by decide +kernel
theorem dX8_roundSteps_22 : decode cX8_roundSteps 22 = .ok (.getfield 30, 3) := by decide +kernel
theorem dX8_roundSteps_25 : decode cX8_roundSteps 25 = .ok (.getfield 64, 3) := by decide +kernel
theorem dX8_roundSteps_28 : decode cX8_roundSteps 28 = .ok (.ishl, 1) := by decide +kernel
theorem dX8_roundSteps_29 : decode cX8_roundSteps 29 = .ok (.iconst 2, 1) := by decide +kernel
theorem dX8_roundSteps_30 : decode cX8_roundSteps 30 = .ok (.isub, 1) := by decide +kernel
theorem dX8_roundSteps_31 : decode cX8_roundSteps 31 = .ok (.iconst 0, 1) := by decide +kernel
theorem dX8_roundSteps_32 : decode cX8_roundSteps 32 = .ok (.iconst 0, 1) := by decide +kernel
theorem dX8_roundSteps_33 : decode cX8_roundSteps 33 = .ok (.invokestatic 109, 3) := by decide +kernel
theorem dX8_roundSteps_36 : decode cX8_roundSteps 36 = .ok (.ldc 113, 2) := by decide +kernel
theorem dX8_roundSteps_38 : decode cX8_roundSteps 38 = .ok (.idiv, 1) := by decide +kernel
theorem dX8_roundSteps_39 : decode cX8_roundSteps 39 = .ok (.ireturn, 1) := by decide +kernel
theorem dX8_roundOrder_0 : decode cX8_roundOrder 0 = .ok (.aload_n 0, 1) := by decide +kernel
theorem dX8_roundOrder_1 : decode cX8_roundOrder 1 = .ok (.getfield 30, 3) := by decide +kernel
theorem dX8_roundOrder_4 : decode cX8_roundOrder 4 = .ok (.getfield 64, 3) := by decide +kernel
theorem dX8_roundOrder_7 : decode cX8_roundOrder 7 = .ok (.iconst 2, 1) := by decide +kernel
theorem dX8_roundOrder_8 : decode cX8_roundOrder 8 = .ok (.if_icmp .ge 7, 3) := by decide +kernel
theorem dX8_roundOrder_11 : decode cX8_roundOrder 11 = .ok (.iconst 0, 1) := by decide +kernel
theorem dX8_roundOrder_12 : decode cX8_roundOrder 12 = .ok (.goto 27, 3) := by decide +kernel
theorem dX8_roundOrder_15 : decode cX8_roundOrder 15 = .ok (.aload_n 0, 1) := by decide +kernel
theorem dX8_roundOrder_16 : decode cX8_roundOrder 16 = .ok (.getfield 30, 3) := by decide +kernel
theorem dX8_roundOrder_19 : decode cX8_roundOrder 19 = .ok (.iconst 0, 1) := by decide +kernel
theorem dX8_roundOrder_20 : decode cX8_roundOrder 20 = .ok (.iconst 1, 1) := by decide +kernel
theorem dX8_roundOrder_21 : decode cX8_roundOrder 21 = .ok (.aload_n 0, 1) := by decide +kernel
theorem dX8_roundOrder_22 : decode cX8_roundOrder 22 = .ok (.getfield 30, 3) := by decide +kernel
theorem dX8_roundOrder_25 : decode cX8_roundOrder 25 = .ok (.getfield 64, 3) := by decide +kernel
theorem dX8_roundOrder_28 : decode cX8_roundOrder 28 = .ok (.ishl, 1) := by decide +kernel
theorem dX8_roundOrder_29 : decode cX8_roundOrder 29 = .ok (.iconst 2, 1) := by decide +kernel
theorem dX8_roundOrder_30 : decode cX8_roundOrder 30 = .ok (.isub, 1) := by decide +kernel
theorem dX8_roundOrder_31 : decode cX8_roundOrder 31 = .ok (.iconst 0, 1) := by decide +kernel
theorem dX8_roundOrder_32 : decode cX8_roundOrder 32 = .ok (.iconst 0, 1) := by decide +kernel
theorem dX8_roundOrder_33 : decode cX8_roundOrder 33 = .ok (.invokestatic 109, 3) := by decide +kernel
theorem dX8_roundOrder_36 : decode cX8_roundOrder 36 = .ok (.ldc 113, 2) := by decide +kernel
theorem dX8_roundOrder_38 : decode cX8_roundOrder 38 = .ok (.irem, 1) := by decide +kernel
theorem dX8_roundOrder_39 : decode cX8_roundOrder 39 = .ok (.ireturn, 1) := by decide +kernel
theorem dX8_bestRound_0 : decode cX8_bestRound 0 = .ok (.iload_n 2, 1) := by decide +kernel
theorem dX8_bestRound_1 : decode cX8_bestRound 1 = .ok (.ifCond .ne 18, 3) := by decide +kernel
theorem dX8_bestRound_4 : decode cX8_bestRound 4 = .ok (.iload_n 3, 1) := by decide +kernel
theorem dX8_bestRound_5 : decode cX8_bestRound 5 = .ok (.aload_n 0, 1) := by decide +kernel
theorem dX8_bestRound_6 : decode cX8_bestRound 6 = .ok (.iload_n 1, 1) := by decide +kernel
theorem dX8_bestRound_7 : decode cX8_bestRound 7 = .ok (.iconst 0, 1) := by decide +kernel
theorem dX8_bestRound_8 : decode cX8_bestRound 8 = .ok (.invokestatic 114, 3) := by decide +kernel
theorem dX8_bestRound_11 : decode cX8_bestRound 11 = .ok (.iadd, 1) := by decide +kernel
theorem dX8_bestRound_12 : decode cX8_bestRound 12 = .ok (.ldc 113, 2) := by decide +kernel
theorem dX8_bestRound_14 : decode cX8_bestRound 14 = .ok (.imul, 1) := by decide +kernel
theorem dX8_bestRound_15 : decode cX8_bestRound 15 = .ok (.iload 4, 2) := by decide +kernel
theorem dX8_bestRound_17 : decode cX8_bestRound 17 = .ok (.iadd, 1) := by decide +kernel
theorem dX8_bestRound_18 : decode cX8_bestRound 18 = .ok (.ireturn, 1) := by decide +kernel
theorem dX8_bestRound_19 : decode cX8_bestRound 19 = .ok (.ldc 117, 2) := by decide +kernel
theorem dX8_bestRound_21 : decode cX8_bestRound 21 = .ok (.istore 5, 2) := by decide +kernel
theorem dX8_bestRound_23 : decode cX8_bestRound 23 = .ok (.iconst 1, 1) := by decide +kernel
theorem dX8_bestRound_24 : decode cX8_bestRound 24 = .ok (.istore 6, 2) := by decide +kernel
theorem dX8_bestRound_26 : decode cX8_bestRound 26 = .ok (.iload 6, 2) := by decide +kernel
theorem dX8_bestRound_28 : decode cX8_bestRound 28 = .ok (.aload_n 0, 1) := by decide +kernel
theorem dX8_bestRound_29 : decode cX8_bestRound 29 = .ok (.getfield 64, 3) := by decide +kernel
theorem dX8_bestRound_32 : decode cX8_bestRound 32 = .ok (.if_icmp .ge 64, 3) := by decide +kernel
theorem dX8_bestRound_35 : decode cX8_bestRound 35 = .ok (.iload_n 2, 1) := by decide +kernel
theorem dX8_bestRound_36 : decode cX8_bestRound 36 = .ok (.iload 6, 2) := by decide +kernel
theorem dX8_bestRound_38 : decode cX8_bestRound 38 = .ok (.ishr, 1) := by decide +kernel
theorem dX8_bestRound_39 : decode cX8_bestRound 39 = .ok (.iconst 1, 1) := by decide +kernel
theorem dX8_bestRound_40 : decode cX8_bestRound 40 = .ok (.iand, 1) := by decide +kernel
theorem dX8_bestRound_41 : decode cX8_bestRound 41 = .ok (.ifCond .eq 49, 3) := by decide +kernel
theorem dX8_bestRound_44 : decode cX8_bestRound 44 = .ok (.iload_n 2, 1) := by decide +kernel
theorem dX8_bestRound_45 : decode cX8_bestRound 45 = .ok (.iconst 1, 1) := by decide +kernel
theorem dX8_bestRound_46 : decode cX8_bestRound 46 = .ok (.iload 6, 2) := by decide +kernel
theorem dX8_bestRound_48 : decode cX8_bestRound 48 = .ok (.ishl, 1) := by decide +kernel
theorem dX8_bestRound_49 : decode cX8_bestRound 49 = .ok (.iconst (-1), 1) := by decide +kernel
theorem dX8_bestRound_50 : decode cX8_bestRound 50 = .ok (.ixor, 1) := by decide +kernel
theorem dX8_bestRound_51 : decode cX8_bestRound 51 = .ok (.iand, 1) := by decide +kernel
theorem dX8_bestRound_52 : decode cX8_bestRound 52 = .ok (.istore 7, 2) := by decide +kernel
theorem dX8_bestRound_54 : decode cX8_bestRound 54 = .ok (.iload_n 3, 1) := by decide +kernel
theorem dX8_bestRound_55 : decode cX8_bestRound 55 = .ok (.aload_n 0, 1) := by decide +kernel
theorem dX8_bestRound_56 : decode cX8_bestRound 56 = .ok (.iload_n 1, 1) := by decide +kernel
theorem dX8_bestRound_57 : decode cX8_bestRound 57 = .ok (.iload 6, 2) := by decide +kernel
theorem dX8_bestRound_59 : decode cX8_bestRound 59 = .ok (.invokestatic 114, 3) := by decide +kernel
theorem dX8_bestRound_62 : decode cX8_bestRound 62 = .ok (.iadd, 1) := by decide +kernel
theorem dX8_bestRound_63 : decode cX8_bestRound 63 = .ok (.istore 8, 2) := by decide +kernel
theorem dX8_bestRound_65 : decode cX8_bestRound 65 = .ok (.iload 5, 2) := by decide +kernel
theorem dX8_bestRound_67 : decode cX8_bestRound 67 = .ok (.aload_n 0, 1) := by decide +kernel
theorem dX8_bestRound_68 : decode cX8_bestRound 68 = .ok (.iload 6, 2) := by decide +kernel
theorem dX8_bestRound_70 : decode cX8_bestRound 70 = .ok (.iload 7, 2) := by decide +kernel
theorem dX8_bestRound_72 : decode cX8_bestRound 72 = .ok (.iload 8, 2) := by decide +kernel
theorem dX8_bestRound_74 : decode cX8_bestRound 74 = .ok (.iload 4, 2) := by decide +kernel
theorem dX8_bestRound_76 : decode cX8_bestRound 76 = .ok (.bipush 10, 2) := by decide +kernel
theorem dX8_bestRound_78 : decode cX8_bestRound 78 = .ok (.imul, 1) := by decide +kernel
theorem dX8_bestRound_79 : decode cX8_bestRound 79 = .ok (.iload 6, 2) := by decide +kernel
theorem dX8_bestRound_81 : decode cX8_bestRound 81 = .ok (.iadd, 1) := by decide +kernel
theorem dX8_bestRound_82 : decode cX8_bestRound 82 = .ok (.invokestatic 109, 3) := by decide +kernel
theorem dX8_bestRound_85 : decode cX8_bestRound 85 = .ok (.invokestatic 99, 3) := by decide +kernel
theorem dX8_bestRound_88 : decode cX8_bestRound 88 = .ok (.istore 5, 2) := by decide +kernel
theorem dX8_bestRound_90 : decode cX8_bestRound 90 = .ok (.iinc 6 1, 3) := by decide +kernel
theorem dX8_bestRound_93 : decode cX8_bestRound 93 = .ok (.goto (-67), 3) := by decide +kernel
theorem dX8_bestRound_96 : decode cX8_bestRound 96 = .ok (.iload 5, 2) := by decide +kernel
theorem dX8_bestRound_98 : decode cX8_bestRound 98 = .ok (.ireturn, 1) := by decide +kernel
theorem dX8_way_0 : decode cX8_way 0 = .ok (.aload_n 0, 1) := by decide +kernel
theorem dX8_way_1 : decode cX8_way 1 = .ok (.iload_n 1, 1) := by decide +kernel
theorem dX8_way_2 : decode cX8_way 2 = .ok (.iconst 0, 1) := by decide +kernel
theorem dX8_way_3 : decode cX8_way 3 = .ok (.invokevirtual 68, 3) := by decide +kernel
theorem dX8_way_6 : decode cX8_way 6 = .ok (.aload_n 0, 1) := by decide +kernel
theorem dX8_way_7 : decode cX8_way 7 = .ok (.iload_n 2, 1) := by decide +kernel
theorem dX8_way_8 : decode cX8_way 8 = .ok (.iconst 0, 1) := by decide +kernel
theorem dX8_way_9 : decode cX8_way 9 = .ok (.invokevirtual 68, 3) := by decide +kernel
theorem dX8_way_12 : decode cX8_way 12 = .ok (.isub, 1) := by decide +kernel
theorem dX8_way_13 : decode cX8_way 13 = .ok (.invokestatic 76, 3) := by decide +kernel
theorem dX8_way_16 : decode cX8_way 16 = .ok (.aload_n 0, 1) := by decide +kernel
theorem dX8_way_17 : decode cX8_way 17 = .ok (.iload_n 1, 1) := by decide +kernel
theorem dX8_way_18 : decode cX8_way 18 = .ok (.iconst 1, 1) := by decide +kernel
theorem dX8_way_19 : decode cX8_way 19 = .ok (.invokevirtual 68, 3) := by decide +kernel
theorem dX8_way_22 : decode cX8_way 22 = .ok (.aload_n 0, 1) := by decide +kernel
theorem dX8_way_23 : decode cX8_way 23 = .ok (.iload_n 2, 1) := by decide +kernel
theorem dX8_way_24 : decode cX8_way 24 = .ok (.iconst 1, 1) := by decide +kernel
theorem dX8_way_25 : decode cX8_way 25 = .ok (.invokevirtual 68, 3) := by decide +kernel
theorem dX8_way_28 : decode cX8_way 28 = .ok (.isub, 1) := by decide +kernel
theorem dX8_way_29 : decode cX8_way 29 = .ok (.invokestatic 76, 3) := by decide +kernel
theorem dX8_way_32 : decode cX8_way 32 = .ok (.iadd, 1) := by decide +kernel
theorem dX8_way_33 : decode cX8_way 33 = .ok (.ireturn, 1) := by decide +kernel
theorem dX8_nextOrder_0 : decode cX8_nextOrder 0 = .ok (.aload_n 0, 1) := by decide +kernel
theorem dX8_nextOrder_1 : decode cX8_nextOrder 1 = .ok (.getfield 33, 3) := by decide +kernel
theorem dX8_nextOrder_4 : decode cX8_nextOrder 4 = .ok (.getfield 64, 3) := by decide +kernel
theorem dX8_nextOrder_7 : decode cX8_nextOrder 7 = .ok (.aload_n 0, 1) := by decide +kernel
theorem dX8_nextOrder_8 : decode cX8_nextOrder 8 = .ok (.getfield 42, 3) := by decide +kernel
theorem dX8_nextOrder_11 : decode cX8_nextOrder 11 = .ok (.arraylength, 1) := by decide +kernel
theorem dX8_nextOrder_12 : decode cX8_nextOrder 12 = .ok (.invokestatic 99, 3) := by decide +kernel
theorem dX8_nextOrder_15 : decode cX8_nextOrder 15 = .ok (.istore_n 1, 1) := by decide +kernel
theorem dX8_nextOrder_16 : decode cX8_nextOrder 16 = .ok (.iconst 0, 1) := by decide +kernel
theorem dX8_nextOrder_17 : decode cX8_nextOrder 17 = .ok (.istore_n 2, 1) := by decide +kernel
theorem dX8_nextOrder_18 : decode cX8_nextOrder 18 = .ok (.iload_n 2, 1) := by decide +kernel
theorem dX8_nextOrder_19 : decode cX8_nextOrder 19 = .ok (.iload_n 1, 1) := by decide +kernel
theorem dX8_nextOrder_20 : decode cX8_nextOrder 20 = .ok (.if_icmp .ge 24, 3) := by decide +kernel
theorem dX8_nextOrder_23 : decode cX8_nextOrder 23 = .ok (.aload_n 0, 1) := by decide +kernel
theorem dX8_nextOrder_24 : decode cX8_nextOrder 24 = .ok (.getfield 42, 3) := by decide +kernel
theorem dX8_nextOrder_27 : decode cX8_nextOrder 27 = .ok (.iload_n 2, 1) := by decide +kernel
theorem dX8_nextOrder_28 : decode cX8_nextOrder 28 = .ok (.aload_n 0, 1) := by decide +kernel
theorem dX8_nextOrder_29 : decode cX8_nextOrder 29 = .ok (.getfield 33, 3) := by decide +kernel
theorem dX8_nextOrder_32 : decode cX8_nextOrder 32 = .ok (.iload_n 2, 1) := by decide +kernel
theorem dX8_nextOrder_33 : decode cX8_nextOrder 33 = .ok (.iconst 0, 1) := by decide +kernel
theorem dX8_nextOrder_34 : decode cX8_nextOrder 34 = .ok (.invokevirtual 68, 3) := by decide +kernel
theorem dX8_nextOrder_37 : decode cX8_nextOrder 37 = .ok (.iastore, 1) := by decide +kernel
theorem dX8_nextOrder_38 : decode cX8_nextOrder 38 = .ok (.iinc 2 1, 3) := by decide +kernel
theorem dX8_nextOrder_41 : decode cX8_nextOrder 41 = .ok (.goto (-23), 3) := by decide +kernel
theorem dX8_nextOrder_44 : decode cX8_nextOrder 44 = .ok (.iload_n 1, 1) := by decide +kernel
theorem dX8_nextOrder_45 : decode cX8_nextOrder 45 = .ok (.iconst 2, 1) := by decide +kernel
theorem dX8_nextOrder_46 : decode cX8_nextOrder 46 = .ok (.isub, 1) := by decide +kernel
theorem dX8_nextOrder_47 : decode cX8_nextOrder 47 = .ok (.istore_n 2, 1) := by decide +kernel
theorem dX8_nextOrder_48 : decode cX8_nextOrder 48 = .ok (.iload_n 2, 1) := by decide +kernel
theorem dX8_nextOrder_49 : decode cX8_nextOrder 49 = .ok (.ifCond .lt 26, 3) := by decide +kernel
theorem dX8_nextOrder_52 : decode cX8_nextOrder 52 = .ok (.aload_n 0, 1) := by decide +kernel
theorem dX8_nextOrder_53 : decode cX8_nextOrder 53 = .ok (.getfield 42, 3) := by decide +kernel
theorem dX8_nextOrder_56 : decode cX8_nextOrder 56 = .ok (.iload_n 2, 1) := by decide +kernel
theorem dX8_nextOrder_57 : decode cX8_nextOrder 57 = .ok (.iaload, 1) := by decide +kernel
theorem dX8_nextOrder_58 : decode cX8_nextOrder 58 = .ok (.aload_n 0, 1) := by decide +kernel
theorem dX8_nextOrder_59 : decode cX8_nextOrder 59 = .ok (.getfield 42, 3) := by decide +kernel
theorem dX8_nextOrder_62 : decode cX8_nextOrder 62 = .ok (.iload_n 2, 1) := by decide +kernel
theorem dX8_nextOrder_63 : decode cX8_nextOrder 63 = .ok (.iconst 1, 1) := by decide +kernel
theorem dX8_nextOrder_64 : decode cX8_nextOrder 64 = .ok (.iadd, 1) := by decide +kernel
theorem dX8_nextOrder_65 : decode cX8_nextOrder 65 = .ok (.iaload, 1) := by decide +kernel
theorem dX8_nextOrder_66 : decode cX8_nextOrder 66 = .ok (.if_icmp .lt 9, 3) := by decide +kernel
theorem dX8_nextOrder_69 : decode cX8_nextOrder 69 = .ok (.iinc 2 (-1), 3) := by decide +kernel
theorem dX8_nextOrder_72 : decode cX8_nextOrder 72 = .ok (.goto (-24), 3) := by decide +kernel
theorem dX8_nextOrder_75 : decode cX8_nextOrder 75 = .ok (.iload_n 2, 1) := by decide +kernel
theorem dX8_nextOrder_76 : decode cX8_nextOrder 76 = .ok (.ifCond .ge 5, 3) := by decide +kernel
theorem dX8_nextOrder_79 : decode cX8_nextOrder 79 = .ok (.iconst (-1), 1) := by decide +kernel
theorem dX8_nextOrder_80 : decode cX8_nextOrder 80 = .ok (.ireturn, 1) := by decide +kernel
theorem dX8_nextOrder_81 : decode cX8_nextOrder 81 = .ok (.iload_n 1, 1) := by decide +kernel
theorem dX8_nextOrder_82 : decode cX8_nextOrder 82 = .ok (.iconst 1, 1) := by decide +kernel
theorem dX8_nextOrder_83 : decode cX8_nextOrder 83 = .ok (.isub, 1) := by decide +kernel
theorem dX8_nextOrder_84 : decode cX8_nextOrder 84 = .ok (.istore_n 3, 1) := by decide +kernel
theorem dX8_nextOrder_85 : decode cX8_nextOrder 85 = .ok (.iload_n 3, 1) := by decide +kernel
theorem dX8_nextOrder_86 : decode cX8_nextOrder 86 = .ok (.iload_n 2, 1) := by decide +kernel
theorem dX8_nextOrder_87 : decode cX8_nextOrder 87 = .ok (.iconst 1, 1) := by decide +kernel
theorem dX8_nextOrder_88 : decode cX8_nextOrder 88 = .ok (.iadd, 1) := by decide +kernel
theorem dX8_nextOrder_89 : decode cX8_nextOrder 89 = .ok (.if_icmp .le 24, 3) := by decide +kernel
theorem dX8_nextOrder_92 : decode cX8_nextOrder 92 = .ok (.aload_n 0, 1) := by decide +kernel
theorem dX8_nextOrder_93 : decode cX8_nextOrder 93 = .ok (.getfield 42, 3) := by decide +kernel
theorem dX8_nextOrder_96 : decode cX8_nextOrder 96 = .ok (.iload_n 3, 1) := by decide +kernel
theorem dX8_nextOrder_97 : decode cX8_nextOrder 97 = .ok (.iaload, 1) := by decide +kernel
theorem dX8_nextOrder_98 : decode cX8_nextOrder 98 = .ok (.aload_n 0, 1) := by decide +kernel
theorem dX8_nextOrder_99 : decode cX8_nextOrder 99 = .ok (.getfield 42, 3) := by decide +kernel
theorem dX8_nextOrder_102 : decode cX8_nextOrder 102 = .ok (.iload_n 2, 1) := by decide +kernel
theorem dX8_nextOrder_103 : decode cX8_nextOrder 103 = .ok (.iaload, 1) := by decide +kernel
theorem dX8_nextOrder_104 : decode cX8_nextOrder 104 = .ok (.if_icmp .gt 9, 3) := by decide +kernel
theorem dX8_nextOrder_107 : decode cX8_nextOrder 107 = .ok (.iinc 3 (-1), 3) := by decide +kernel
theorem dX8_nextOrder_110 : decode cX8_nextOrder 110 = .ok (.goto (-25), 3) := by decide +kernel
theorem dX8_nextOrder_113 : decode cX8_nextOrder 113 = .ok (.aload_n 0, 1) := by decide +kernel
theorem dX8_nextOrder_114 : decode cX8_nextOrder 114 = .ok (.iload_n 2, 1) := by decide +kernel
theorem dX8_nextOrder_115 : decode cX8_nextOrder 115 = .ok (.iload_n 3, 1) := by decide +kernel
theorem dX8_nextOrder_116 : decode cX8_nextOrder 116 = .ok (.invokevirtual 118, 3) := by decide +kernel
theorem dX8_nextOrder_119 : decode cX8_nextOrder 119 = .ok (.iload_n 2, 1) := by decide +kernel
theorem dX8_nextOrder_120 : decode cX8_nextOrder 120 = .ok (.iconst 1, 1) := by decide +kernel
theorem dX8_nextOrder_121 : decode cX8_nextOrder 121 = .ok (.iadd, 1) := by decide +kernel
theorem dX8_nextOrder_122 : decode cX8_nextOrder 122 = .ok (.istore 4, 2) := by decide +kernel
theorem dX8_nextOrder_124 : decode cX8_nextOrder 124 = .ok (.iload_n 1, 1) := by decide +kernel
theorem dX8_nextOrder_125 : decode cX8_nextOrder 125 = .ok (.iconst 1, 1) := by decide +kernel
theorem dX8_nextOrder_126 : decode cX8_nextOrder 126 = .ok (.isub, 1) := by decide +kernel
theorem dX8_nextOrder_127 : decode cX8_nextOrder 127 = .ok (.istore 5, 2) := by decide +kernel
theorem dX8_nextOrder_129 : decode cX8_nextOrder 129 = .ok (.iload 4, 2) := by decide +kernel
theorem dX8_nextOrder_131 : decode cX8_nextOrder 131 = .ok (.iload 5, 2) := by decide +kernel
theorem dX8_nextOrder_133 : decode cX8_nextOrder 133 = .ok (.if_icmp .ge 20, 3) := by decide +kernel
theorem dX8_nextOrder_136 : decode cX8_nextOrder 136 = .ok (.aload_n 0, 1) := by decide +kernel
theorem dX8_nextOrder_137 : decode cX8_nextOrder 137 = .ok (.iload 4, 2) := by decide +kernel
theorem dX8_nextOrder_139 : decode cX8_nextOrder 139 = .ok (.iload 5, 2) := by decide +kernel
theorem dX8_nextOrder_141 : decode cX8_nextOrder 141 = .ok (.invokevirtual 118, 3) := by decide +kernel
theorem dX8_nextOrder_144 : decode cX8_nextOrder 144 = .ok (.iinc 4 1, 3) := by decide +kernel
theorem dX8_nextOrder_147 : decode cX8_nextOrder 147 = .ok (.iinc 5 (-1), 3) := by decide +kernel
theorem dX8_nextOrder_150 : decode cX8_nextOrder 150 = .ok (.goto (-21), 3) := by decide +kernel
theorem dX8_nextOrder_153 : decode cX8_nextOrder 153 = .ok (.iconst 0, 1) := by decide +kernel
theorem dX8_nextOrder_154 : decode cX8_nextOrder 154 = .ok (.istore 4, 2) := by decide +kernel
theorem dX8_nextOrder_156 : decode cX8_nextOrder 156 = .ok (.iconst 0, 1) := by decide +kernel
theorem dX8_nextOrder_157 : decode cX8_nextOrder 157 = .ok (.istore 5, 2) := by decide +kernel
theorem dX8_nextOrder_159 : decode cX8_nextOrder 159 = .ok (.iload 5, 2) := by decide +kernel
theorem dX8_nextOrder_161 : decode cX8_nextOrder 161 = .ok (.iload_n 1, 1) := by decide +kernel
theorem dX8_nextOrder_162 : decode cX8_nextOrder 162 = .ok (.if_icmp .ge 24, 3) := by decide +kernel
theorem dX8_nextOrder_165 : decode cX8_nextOrder 165 = .ok (.iload 4, 2) := by decide +kernel
theorem dX8_nextOrder_167 : decode cX8_nextOrder 167 = .ok (.bipush 10, 2) := by decide +kernel
theorem dX8_nextOrder_169 : decode cX8_nextOrder 169 = .ok (.imul, 1) := by decide +kernel
theorem dX8_nextOrder_170 : decode cX8_nextOrder 170 = .ok (.aload_n 0, 1) := by decide +kernel
theorem dX8_nextOrder_171 : decode cX8_nextOrder 171 = .ok (.getfield 42, 3) := by decide +kernel
theorem dX8_nextOrder_174 : decode cX8_nextOrder 174 = .ok (.iload 5, 2) := by decide +kernel
theorem dX8_nextOrder_176 : decode cX8_nextOrder 176 = .ok (.iaload, 1) := by decide +kernel
theorem dX8_nextOrder_177 : decode cX8_nextOrder 177 = .ok (.iadd, 1) := by decide +kernel
theorem dX8_nextOrder_178 : decode cX8_nextOrder 178 = .ok (.istore 4, 2) := by decide +kernel
theorem dX8_nextOrder_180 : decode cX8_nextOrder 180 = .ok (.iinc 5 1, 3) := by decide +kernel
theorem dX8_nextOrder_183 : decode cX8_nextOrder 183 = .ok (.goto (-24), 3) := by decide +kernel
theorem dX8_nextOrder_186 : decode cX8_nextOrder 186 = .ok (.iload 4, 2) := by decide +kernel
theorem dX8_nextOrder_188 : decode cX8_nextOrder 188 = .ok (.ireturn, 1) := by decide +kernel
theorem dX8_swap_0 : decode cX8_swap 0 = .ok (.iload_n 1, 1) := by decide +kernel
theorem dX8_swap_1 : decode cX8_swap 1 = .ok (.iconst 0, 1) := by decide +kernel
theorem dX8_swap_2 : decode cX8_swap 2 = .ok (.aload_n 0, 1) := by decide +kernel
theorem dX8_swap_3 : decode cX8_swap 3 = .ok (.getfield 42, 3) := by decide +kernel
theorem dX8_swap_6 : decode cX8_swap 6 = .ok (.arraylength, 1) := by decide +kernel
theorem dX8_swap_7 : decode cX8_swap 7 = .ok (.iconst 1, 1) := by decide +kernel
theorem dX8_swap_8 : decode cX8_swap 8 = .ok (.isub, 1) := by decide +kernel
theorem dX8_swap_9 : decode cX8_swap 9 = .ok (.invokestatic 121, 3) := by decide +kernel
theorem dX8_swap_12 : decode cX8_swap 12 = .ok (.ifCond .eq 18, 3) := by decide +kernel
theorem dX8_swap_15 : decode cX8_swap 15 = .ok (.iload_n 2, 1) := by decide +kernel
theorem dX8_swap_16 : decode cX8_swap 16 = .ok (.iconst 0, 1) := by decide +kernel
theorem dX8_swap_17 : decode cX8_swap 17 = .ok (.aload_n 0, 1) := by decide +kernel
theorem dX8_swap_18 : decode cX8_swap 18 = .ok (.getfield 42, 3) := by decide +kernel
theorem dX8_swap_21 : decode cX8_swap 21 = .ok (.arraylength, 1) := by decide +kernel
theorem dX8_swap_22 : decode cX8_swap 22 = .ok (.iconst 1, 1) := by decide +kernel
theorem dX8_swap_23 : decode cX8_swap 23 = .ok (.isub, 1) := by decide +kernel
theorem dX8_swap_24 : decode cX8_swap 24 = .ok (.invokestatic 121, 3) := by decide +kernel
theorem dX8_swap_27 : decode cX8_swap 27 = .ok (.ifCond .ne 4, 3) := by decide +kernel
theorem dX8_swap_30 : decode cX8_swap 30 = .ok (.return_, 1) := by decide +kernel
theorem dX8_swap_31 : decode cX8_swap 31 = .ok (.aload_n 0, 1) := by decide +kernel
theorem dX8_swap_32 : decode cX8_swap 32 = .ok (.getfield 42, 3) := by decide +kernel
theorem dX8_swap_35 : decode cX8_swap 35 = .ok (.iload_n 1, 1) := by decide +kernel
theorem dX8_swap_36 : decode cX8_swap 36 = .ok (.iaload, 1) := by decide +kernel
theorem dX8_swap_37 : decode cX8_swap 37 = .ok (.istore_n 3, 1) := by decide +kernel
theorem dX8_swap_38 : decode cX8_swap 38 = .ok (.aload_n 0, 1) := by decide +kernel
theorem dX8_swap_39 : decode cX8_swap 39 = .ok (.getfield 42, 3) := by decide +kernel
theorem dX8_swap_42 : decode cX8_swap 42 = .ok (.iload_n 1, 1) := by decide +kernel
theorem dX8_swap_43 : decode cX8_swap 43 = .ok (.aload_n 0, 1) := by decide +kernel
theorem dX8_swap_44 : decode cX8_swap 44 = .ok (.getfield 42, 3) := by decide +kernel
theorem dX8_swap_47 : decode cX8_swap 47 = .ok (.iload_n 2, 1) := by decide +kernel
theorem dX8_swap_48 : decode cX8_swap 48 = .ok (.iaload, 1) := by decide +kernel
theorem dX8_swap_49 : decode cX8_swap 49 = .ok (.iastore, 1) := by decide +kernel
theorem dX8_swap_50 : decode cX8_swap 50 = .ok (.aload_n 0, 1) := by decide +kernel
theorem dX8_swap_51 : decode cX8_swap 51 = .ok (.getfield 42, 3) := by decide +kernel
theorem dX8_swap_54 : decode cX8_swap 54 = .ok (.iload_n 2, 1) := by decide +kernel
theorem dX8_swap_55 : decode cX8_swap 55 = .ok (.iload_n 3, 1) := by decide +kernel
theorem dX8_swap_56 : decode cX8_swap 56 = .ok (.iastore, 1) := by decide +kernel
theorem dX8_swap_57 : decode cX8_swap 57 = .ok (.return_, 1) := by decide +kernel
theorem dX8_whichOrder_0 : decode cX8_whichOrder 0 = .ok (.iconst 0, 1) := by decide +kernel
theorem dX8_whichOrder_1 : decode cX8_whichOrder 1 = .ok (.istore_n 1, 1) := by decide +kernel
theorem dX8_whichOrder_2 : decode cX8_whichOrder 2 = .ok (.iconst 0, 1) := by decide +kernel
theorem dX8_whichOrder_3 : decode cX8_whichOrder 3 = .ok (.istore_n 2, 1) := by decide +kernel
theorem dX8_whichOrder_4 : decode cX8_whichOrder 4 = .ok (.iload_n 2, 1) := by decide +kernel
theorem dX8_whichOrder_5 : decode cX8_whichOrder 5 = .ok (.aload_n 0, 1) := by decide +kernel
theorem dX8_whichOrder_6 : decode cX8_whichOrder 6 = .ok (.getfield 33, 3) := by decide +kernel
theorem dX8_whichOrder_9 : decode cX8_whichOrder 9 = .ok (.getfield 64, 3) := by decide +kernel
theorem dX8_whichOrder_12 : decode cX8_whichOrder 12 = .ok (.if_icmp .ge 88, 3) := by decide +kernel
theorem dX8_whichOrder_15 : decode cX8_whichOrder 15 = .ok (.aload_n 0, 1) := by decide +kernel
theorem dX8_whichOrder_16 : decode cX8_whichOrder 16 = .ok (.iload_n 2, 1) := by decide +kernel
theorem dX8_whichOrder_17 : decode cX8_whichOrder 17 = .ok (.invokevirtual 125, 3) := by decide +kernel
theorem dX8_whichOrder_20 : decode cX8_whichOrder 20 = .ok (.iconst 0, 1) := by decide +kernel
theorem dX8_whichOrder_21 : decode cX8_whichOrder 21 = .ok (.istore_n 3, 1) := by decide +kernel
theorem dX8_whichOrder_22 : decode cX8_whichOrder 22 = .ok (.iload_n 3, 1) := by decide +kernel
theorem dX8_whichOrder_23 : decode cX8_whichOrder 23 = .ok (.aload_n 0, 1) := by decide +kernel
theorem dX8_whichOrder_24 : decode cX8_whichOrder 24 = .ok (.getfield 33, 3) := by decide +kernel
theorem dX8_whichOrder_27 : decode cX8_whichOrder 27 = .ok (.iload_n 2, 1) := by decide +kernel
theorem dX8_whichOrder_28 : decode cX8_whichOrder 28 = .ok (.iconst 0, 1) := by decide +kernel
theorem dX8_whichOrder_29 : decode cX8_whichOrder 29 = .ok (.invokevirtual 68, 3) := by decide +kernel
theorem dX8_whichOrder_32 : decode cX8_whichOrder 32 = .ok (.if_icmp .ge 62, 3) := by decide +kernel
theorem dX8_whichOrder_35 : decode cX8_whichOrder 35 = .ok (.iload_n 3, 1) := by decide +kernel
theorem dX8_whichOrder_36 : decode cX8_whichOrder 36 = .ok (.bipush 9, 2) := by decide +kernel
theorem dX8_whichOrder_38 : decode cX8_whichOrder 38 = .ok (.if_icmp .gt 56, 3) := by decide +kernel
theorem dX8_whichOrder_41 : decode cX8_whichOrder 41 = .ok (.aload_n 0, 1) := by decide +kernel
theorem dX8_whichOrder_42 : decode cX8_whichOrder 42 = .ok (.getfield 42, 3) := by decide +kernel
theorem dX8_whichOrder_45 : decode cX8_whichOrder 45 = .ok (.iload_n 3, 1) := by decide +kernel
theorem dX8_whichOrder_46 : decode cX8_whichOrder 46 = .ok (.iaload, 1) := by decide +kernel
theorem dX8_whichOrder_47 : decode cX8_whichOrder 47 = .ok (.ifCond .le 41, 3) := by decide +kernel
theorem dX8_whichOrder_50 : decode cX8_whichOrder 50 = .ok (.aload_n 0, 1) := by decide +kernel
theorem dX8_whichOrder_51 : decode cX8_whichOrder 51 = .ok (.getfield 42, 3) := by decide +kernel
theorem dX8_whichOrder_54 : decode cX8_whichOrder 54 = .ok (.iload_n 3, 1) := by decide +kernel
theorem dX8_whichOrder_55 : decode cX8_whichOrder 55 = .ok (.dup2, 1) := by decide +kernel
theorem dX8_whichOrder_56 : decode cX8_whichOrder 56 = .ok (.iaload, 1) := by decide +kernel
theorem dX8_whichOrder_57 : decode cX8_whichOrder 57 = .ok (.iconst 1, 1) := by decide +kernel
theorem dX8_whichOrder_58 : decode cX8_whichOrder 58 = .ok (.isub, 1) := by decide +kernel
theorem dX8_whichOrder_59 : decode cX8_whichOrder 59 = .ok (.iastore, 1) := by decide +kernel
theorem dX8_whichOrder_60 : decode cX8_whichOrder 60 = .ok (.iload_n 1, 1) := by decide +kernel
theorem dX8_whichOrder_61 : decode cX8_whichOrder 61 = .ok (.aload_n 0, 1) := by decide +kernel
theorem dX8_whichOrder_62 : decode cX8_whichOrder 62 = .ok (.aload_n 0, 1) := by decide +kernel
theorem dX8_whichOrder_63 : decode cX8_whichOrder 63 = .ok (.getfield 33, 3) := by decide +kernel
theorem dX8_whichOrder_66 : decode cX8_whichOrder 66 = .ok (.getfield 64, 3) := by decide +kernel
theorem dX8_whichOrder_69 : decode cX8_whichOrder 69 = .ok (.iload_n 2, 1) := by decide +kernel
theorem dX8_whichOrder_70 : decode cX8_whichOrder 70 = .ok (.isub, 1) := by decide +kernel
theorem dX8_whichOrder_71 : decode cX8_whichOrder 71 = .ok (.iconst 1, 1) := by decide +kernel
theorem dX8_whichOrder_72 : decode cX8_whichOrder 72 = .ok (.isub, 1) := by decide +kernel
theorem dX8_whichOrder_73 : decode cX8_whichOrder 73 = .ok (.invokevirtual 129, 3) := by decide +kernel
theorem dX8_whichOrder_76 : decode cX8_whichOrder 76 = .ok (.iadd, 1) := by decide +kernel
theorem dX8_whichOrder_77 : decode cX8_whichOrder 77 = .ok (.istore_n 1, 1) := by decide +kernel
theorem dX8_whichOrder_78 : decode cX8_whichOrder 78 = .ok (.aload_n 0, 1) := by decide +kernel
theorem dX8_whichOrder_79 : decode cX8_whichOrder 79 = .ok (.getfield 42, 3) := by decide +kernel
theorem dX8_whichOrder_82 : decode cX8_whichOrder 82 = .ok (.iload_n 3, 1) := by decide +kernel
theorem dX8_whichOrder_83 : decode cX8_whichOrder 83 = .ok (.dup2, 1) := by decide +kernel
theorem dX8_whichOrder_84 : decode cX8_whichOrder 84 = .ok (.iaload, 1) := by decide +kernel
theorem dX8_whichOrder_85 : decode cX8_whichOrder 85 = .ok (.iconst 1, 1) := by decide +kernel
theorem dX8_whichOrder_86 : decode cX8_whichOrder 86 = .ok (.iadd, 1) := by decide +kernel
theorem dX8_whichOrder_87 : decode cX8_whichOrder 87 = .ok (.iastore, 1) := by decide +kernel
theorem dX8_whichOrder_88 : decode cX8_whichOrder 88 = .ok (.iinc 3 1, 3) := by decide +kernel
theorem dX8_whichOrder_91 : decode cX8_whichOrder 91 = .ok (.goto (-69), 3) := by decide +kernel
theorem dX8_whichOrder_94 : decode cX8_whichOrder 94 = .ok (.iinc 2 1, 3) := by decide +kernel
theorem dX8_whichOrder_97 : decode cX8_whichOrder 97 = .ok (.goto (-93), 3) := by decide +kernel
theorem dX8_whichOrder_100 : decode cX8_whichOrder 100 = .ok (.iload_n 1, 1) := by decide +kernel
theorem dX8_whichOrder_101 : decode cX8_whichOrder 101 = .ok (.ireturn, 1) := by decide +kernel
theorem dX8_allOrders_0 : decode cX8_allOrders 0 = .ok (.aload_n 0, 1) := by decide +kernel
theorem dX8_allOrders_1 : decode cX8_allOrders 1 = .ok (.iconst 0, 1) := by decide +kernel
theorem dX8_allOrders_2 : decode cX8_allOrders 2 = .ok (.invokevirtual 125, 3) := by decide +kernel
theorem dX8_allOrders_5 : decode cX8_allOrders 5 = .ok (.aload_n 0, 1) := by decide +kernel
theorem dX8_allOrders_6 : decode cX8_allOrders 6 = .ok (.aload_n 0, 1) := by decide +kernel
theorem dX8_allOrders_7 : decode cX8_allOrders 7 = .ok (.getfield 33, 3) := by decide +kernel
theorem dX8_allOrders_10 : decode cX8_allOrders 10 = .ok (.getfield 64, 3) := by decide +kernel
theorem dX8_allOrders_13 : decode cX8_allOrders 13 = .ok (.invokevirtual 129, 3) := by decide +kernel
theorem dX8_allOrders_16 : decode cX8_allOrders 16 = .ok (.ireturn, 1) := by decide +kernel
theorem dX8_countDigitsFrom_0 : decode cX8_countDigitsFrom 0 = .ok (.iconst 0, 1) := by decide +kernel
theorem dX8_countDigitsFrom_1 : decode cX8_countDigitsFrom 1 = .ok (.istore_n 2, 1) := by decide +kernel
theorem dX8_countDigitsFrom_2 : decode cX8_countDigitsFrom 2 = .ok (.iload_n 2, 1) := by decide +kernel
theorem dX8_countDigitsFrom_3 : decode cX8_countDigitsFrom 3 = .ok (.bipush 9, 2) := by decide +kernel
theorem dX8_countDigitsFrom_5 : decode cX8_countDigitsFrom 5 = .ok (.if_icmp .gt 25, 3) := by decide +kernel
theorem dX8_countDigitsFrom_8 : decode cX8_countDigitsFrom 8 = .ok (.aload_n 0, 1) := by decide +kernel
theorem dX8_countDigitsFrom_9 : decode cX8_countDigitsFrom 9 = .ok (.getfield 42, 3) := by decide +kernel
theorem dX8_countDigitsFrom_12 : decode cX8_countDigitsFrom 12 = .ok (.iload_n 2, 1) := by decide +kernel
theorem dX8_countDigitsFrom_13 : decode cX8_countDigitsFrom 13 = .ok (.aload_n 0, 1) := by decide +kernel
theorem dX8_countDigitsFrom_14 : decode cX8_countDigitsFrom 14 = .ok (.getfield 33, 3) := by decide +kernel
theorem dX8_countDigitsFrom_17 : decode cX8_countDigitsFrom 17 = .ok (.iconst 0, 1) := by decide +kernel
theorem dX8_countDigitsFrom_18 : decode cX8_countDigitsFrom 18 = .ok (.iload_n 2, 1) := by decide +kernel
theorem dX8_countDigitsFrom_19 : decode cX8_countDigitsFrom 19 = .ok (.iload_n 1, 1) := by decide +kernel
theorem dX8_countDigitsFrom_20 : decode cX8_countDigitsFrom 20 = .ok (.invokevirtual 132, 3) := by decide +kernel
theorem dX8_countDigitsFrom_23 : decode cX8_countDigitsFrom 23 = .ok (.iastore, 1) := by decide +kernel
theorem dX8_countDigitsFrom_24 : decode cX8_countDigitsFrom 24 = .ok (.iinc 2 1, 3) := by decide +kernel
theorem dX8_countDigitsFrom_27 : decode cX8_countDigitsFrom 27 = .ok (.goto (-25), 3) := by decide +kernel
theorem dX8_countDigitsFrom_30 : decode cX8_countDigitsFrom 30 = .ok (.return_, 1) := by decide +kernel
theorem dX8_ordersOfCounted_0 : decode cX8_ordersOfCounted 0 = .ok (.iconst 1, 1) := by decide +kernel
theorem dX8_ordersOfCounted_1 : decode cX8_ordersOfCounted 1 = .ok (.istore_n 2, 1) := by decide +kernel
theorem dX8_ordersOfCounted_2 : decode cX8_ordersOfCounted 2 = .ok (.iload_n 1, 1) := by decide +kernel
theorem dX8_ordersOfCounted_3 : decode cX8_ordersOfCounted 3 = .ok (.istore_n 3, 1) := by decide +kernel
theorem dX8_ordersOfCounted_4 : decode cX8_ordersOfCounted 4 = .ok (.iconst 0, 1) := by decide +kernel
theorem dX8_ordersOfCounted_5 : decode cX8_ordersOfCounted 5 = .ok (.istore 4, 2) := by decide +kernel
theorem dX8_ordersOfCounted_7 : decode cX8_ordersOfCounted 7 = .ok (.iload 4, 2) := by decide +kernel
theorem dX8_ordersOfCounted_9 : decode cX8_ordersOfCounted 9 = .ok (.bipush 9, 2) := by decide +kernel
theorem dX8_ordersOfCounted_11 : decode cX8_ordersOfCounted 11 = .ok (.if_icmp .gt 33, 3) := by decide +kernel
theorem dX8_ordersOfCounted_14 : decode cX8_ordersOfCounted 14 = .ok (.iload_n 2, 1) := by decide +kernel
theorem dX8_ordersOfCounted_15 : decode cX8_ordersOfCounted 15 = .ok (.iload_n 3, 1) := by decide +kernel
theorem dX8_ordersOfCounted_16 : decode cX8_ordersOfCounted 16 = .ok (.aload_n 0, 1) := by decide +kernel
theorem dX8_ordersOfCounted_17 : decode cX8_ordersOfCounted 17 = .ok (.getfield 42, 3) := by decide +kernel
theorem dX8_ordersOfCounted_20 : decode cX8_ordersOfCounted 20 = .ok (.iload 4, 2) := by decide +kernel
theorem dX8_ordersOfCounted_22 : decode cX8_ordersOfCounted 22 = .ok (.iaload, 1) := by decide +kernel
theorem dX8_ordersOfCounted_23 : decode cX8_ordersOfCounted 23 = .ok (.invokestatic 135, 3) := by decide +kernel
theorem dX8_ordersOfCounted_26 : decode cX8_ordersOfCounted 26 = .ok (.imul, 1) := by decide +kernel
theorem dX8_ordersOfCounted_27 : decode cX8_ordersOfCounted 27 = .ok (.istore_n 2, 1) := by decide +kernel
theorem dX8_ordersOfCounted_28 : decode cX8_ordersOfCounted 28 = .ok (.iload_n 3, 1) := by decide +kernel
theorem dX8_ordersOfCounted_29 : decode cX8_ordersOfCounted 29 = .ok (.aload_n 0, 1) := by decide +kernel
theorem dX8_ordersOfCounted_30 : decode cX8_ordersOfCounted 30 = .ok (.getfield 42, 3) := by decide +kernel
theorem dX8_ordersOfCounted_33 : decode cX8_ordersOfCounted 33 = .ok (.iload 4, 2) := by decide +kernel
theorem dX8_ordersOfCounted_35 : decode cX8_ordersOfCounted 35 = .ok (.iaload, 1) := by decide +kernel
theorem dX8_ordersOfCounted_36 : decode cX8_ordersOfCounted 36 = .ok (.isub, 1) := by decide +kernel
theorem dX8_ordersOfCounted_37 : decode cX8_ordersOfCounted 37 = .ok (.istore_n 3, 1) := by decide +kernel
theorem dX8_ordersOfCounted_38 : decode cX8_ordersOfCounted 38 = .ok (.iinc 4 1, 3) := by decide +kernel
theorem dX8_ordersOfCounted_41 : decode cX8_ordersOfCounted 41 = .ok (.goto (-34), 3) := by decide +kernel
theorem dX8_ordersOfCounted_44 : decode cX8_ordersOfCounted 44 = .ok (.iload_n 2, 1) := by decide +kernel
theorem dX8_ordersOfCounted_45 : decode cX8_ordersOfCounted 45 = .ok (.ireturn, 1) := by decide +kernel
theorem dX8_stacked_0 : decode cX8_stacked 0 = .ok (.iconst 0, 1) := by decide +kernel
theorem dX8_stacked_1 : decode cX8_stacked 1 = .ok (.istore_n 2, 1) := by decide +kernel
theorem dX8_stacked_2 : decode cX8_stacked 2 = .ok (.iconst (-1), 1) := by decide +kernel
theorem dX8_stacked_3 : decode cX8_stacked 3 = .ok (.istore_n 3, 1) := by decide +kernel
theorem dX8_stacked_4 : decode cX8_stacked 4 = .ok (.iconst 0, 1) := by decide +kernel
theorem dX8_stacked_5 : decode cX8_stacked 5 = .ok (.istore 4, 2) := by decide +kernel
theorem dX8_stacked_7 : decode cX8_stacked 7 = .ok (.iload 4, 2) := by decide +kernel
theorem dX8_stacked_9 : decode cX8_stacked 9 = .ok (.aload_n 0, 1) := by decide +kernel
theorem dX8_stacked_10 : decode cX8_stacked 10 = .ok (.getfield 36, 3) := by decide +kernel
theorem dX8_stacked_13 : decode cX8_stacked 13 = .ok (.getfield 64, 3) := by decide +kernel
theorem dX8_stacked_16 : decode cX8_stacked 16 = .ok (.if_icmp .ge 49, 3) := by decide +kernel
theorem dX8_stacked_19 : decode cX8_stacked 19 = .ok (.iload_n 3, 1) := by decide +kernel
theorem dX8_stacked_20 : decode cX8_stacked 20 = .ok (.iconst (-1), 1) := by decide +kernel
theorem dX8_stacked_21 : decode cX8_stacked 21 = .ok (.if_icmp .ne 44, 3) := by decide +kernel
theorem dX8_stacked_24 : decode cX8_stacked 24 = .ok (.aload_n 0, 1) := by decide +kernel
theorem dX8_stacked_25 : decode cX8_stacked 25 = .ok (.getfield 36, 3) := by decide +kernel
theorem dX8_stacked_28 : decode cX8_stacked 28 = .ok (.iload 4, 2) := by decide +kernel
theorem dX8_stacked_30 : decode cX8_stacked 30 = .ok (.iconst 0, 1) := by decide +kernel
theorem dX8_stacked_31 : decode cX8_stacked 31 = .ok (.invokevirtual 68, 3) := by decide +kernel
theorem dX8_stacked_34 : decode cX8_stacked 34 = .ok (.istore 5, 2) := by decide +kernel
theorem dX8_stacked_36 : decode cX8_stacked 36 = .ok (.iload_n 2, 1) := by decide +kernel
theorem dX8_stacked_37 : decode cX8_stacked 37 = .ok (.iload 5, 2) := by decide +kernel
theorem dX8_stacked_39 : decode cX8_stacked 39 = .ok (.invokestatic 138, 3) := by decide +kernel
theorem dX8_stacked_42 : decode cX8_stacked 42 = .ok (.if_icmp .ge 9, 3) := by decide +kernel
theorem dX8_stacked_45 : decode cX8_stacked 45 = .ok (.iload 4, 2) := by decide +kernel
theorem dX8_stacked_47 : decode cX8_stacked 47 = .ok (.istore_n 3, 1) := by decide +kernel
theorem dX8_stacked_48 : decode cX8_stacked 48 = .ok (.goto 11, 3) := by decide +kernel
theorem dX8_stacked_51 : decode cX8_stacked 51 = .ok (.aload_n 0, 1) := by decide +kernel
theorem dX8_stacked_52 : decode cX8_stacked 52 = .ok (.iload 5, 2) := by decide +kernel
theorem dX8_stacked_54 : decode cX8_stacked 54 = .ok (.iload_n 2, 1) := by decide +kernel
theorem dX8_stacked_55 : decode cX8_stacked 55 = .ok (.invokevirtual 141, 3) := by decide +kernel
theorem dX8_stacked_58 : decode cX8_stacked 58 = .ok (.istore_n 2, 1) := by decide +kernel
theorem dX8_stacked_59 : decode cX8_stacked 59 = .ok (.iinc 4 1, 3) := by decide +kernel
theorem dX8_stacked_62 : decode cX8_stacked 62 = .ok (.goto (-55), 3) := by decide +kernel
theorem dX8_stacked_65 : decode cX8_stacked 65 = .ok (.iload_n 1, 1) := by decide +kernel
theorem dX8_stacked_66 : decode cX8_stacked 66 = .ok (.ifCond .ne 14, 3) := by decide +kernel
theorem dX8_stacked_69 : decode cX8_stacked 69 = .ok (.aload_n 0, 1) := by decide +kernel
theorem dX8_stacked_70 : decode cX8_stacked 70 = .ok (.getfield 42, 3) := by decide +kernel
theorem dX8_stacked_73 : decode cX8_stacked 73 = .ok (.iload_n 2, 1) := by decide +kernel
theorem dX8_stacked_74 : decode cX8_stacked 74 = .ok (.iconst 1, 1) := by decide +kernel
theorem dX8_stacked_75 : decode cX8_stacked 75 = .ok (.isub, 1) := by decide +kernel
theorem dX8_stacked_76 : decode cX8_stacked 76 = .ok (.invokestatic 144, 3) := by decide +kernel
theorem dX8_stacked_79 : decode cX8_stacked 79 = .ok (.ireturn, 1) := by decide +kernel
theorem dX8_stacked_80 : decode cX8_stacked 80 = .ok (.iload_n 1, 1) := by decide +kernel
theorem dX8_stacked_81 : decode cX8_stacked 81 = .ok (.iconst 1, 1) := by decide +kernel
theorem dX8_stacked_82 : decode cX8_stacked 82 = .ok (.if_icmp .ne 7, 3) := by decide +kernel
theorem dX8_stacked_85 : decode cX8_stacked 85 = .ok (.iload_n 2, 1) := by decide +kernel
theorem dX8_stacked_86 : decode cX8_stacked 86 = .ok (.goto 4, 3) := by decide +kernel
theorem dX8_stacked_89 : decode cX8_stacked 89 = .ok (.iload_n 3, 1) := by decide +kernel
theorem dX8_stacked_90 : decode cX8_stacked 90 = .ok (.ireturn, 1) := by decide +kernel
theorem dX8_takesFrom_0 : decode cX8_takesFrom 0 = .ok (.iload_n 0, 1) := by decide +kernel
theorem dX8_takesFrom_1 : decode cX8_takesFrom 1 = .ok (.bipush 9, 2) := by decide +kernel
theorem dX8_takesFrom_3 : decode cX8_takesFrom 3 = .ok (.if_icmp .gt 5, 3) := by decide +kernel
theorem dX8_takesFrom_6 : decode cX8_takesFrom 6 = .ok (.iconst 0, 1) := by decide +kernel
theorem dX8_takesFrom_7 : decode cX8_takesFrom 7 = .ok (.ireturn, 1) := by decide +kernel
theorem dX8_takesFrom_8 : decode cX8_takesFrom 8 = .ok (.iload_n 0, 1) := by decide +kernel
theorem dX8_takesFrom_9 : decode cX8_takesFrom 9 = .ok (.bipush 13, 2) := by decide +kernel
theorem dX8_takesFrom_11 : decode cX8_takesFrom 11 = .ok (.if_icmp .ne 7, 3) := by decide +kernel
theorem dX8_takesFrom_14 : decode cX8_takesFrom 14 = .ok (.iconst 1, 1) := by decide +kernel
theorem dX8_takesFrom_15 : decode cX8_takesFrom 15 = .ok (.goto 4, 3) := by decide +kernel
theorem dX8_takesFrom_18 : decode cX8_takesFrom 18 = .ok (.iconst 2, 1) := by decide +kernel
theorem dX8_takesFrom_19 : decode cX8_takesFrom 19 = .ok (.ireturn, 1) := by decide +kernel
theorem dX8_layOn_0 : decode cX8_layOn 0 = .ok (.iload_n 1, 1) := by decide +kernel
theorem dX8_layOn_1 : decode cX8_layOn 1 = .ok (.bipush 9, 2) := by decide +kernel
theorem dX8_layOn_3 : decode cX8_layOn 3 = .ok (.if_icmp .le 9, 3) := by decide +kernel
theorem dX8_layOn_6 : decode cX8_layOn 6 = .ok (.iload_n 1, 1) := by decide +kernel
theorem dX8_layOn_7 : decode cX8_layOn 7 = .ok (.bipush 13, 2) := by decide +kernel
theorem dX8_layOn_9 : decode cX8_layOn 9 = .ok (.if_icmp .ne 50, 3) := by decide +kernel
theorem dX8_layOn_12 : decode cX8_layOn 12 = .ok (.iload_n 2, 1) := by decide +kernel
theorem dX8_layOn_13 : decode cX8_layOn 13 = .ok (.iconst 0, 1) := by decide +kernel
theorem dX8_layOn_14 : decode cX8_layOn 14 = .ok (.aload_n 0, 1) := by decide +kernel
theorem dX8_layOn_15 : decode cX8_layOn 15 = .ok (.getfield 42, 3) := by decide +kernel
theorem dX8_layOn_18 : decode cX8_layOn 18 = .ok (.arraylength, 1) := by decide +kernel
theorem dX8_layOn_19 : decode cX8_layOn 19 = .ok (.iconst 1, 1) := by decide +kernel
theorem dX8_layOn_20 : decode cX8_layOn 20 = .ok (.isub, 1) := by decide +kernel
theorem dX8_layOn_21 : decode cX8_layOn 21 = .ok (.invokestatic 121, 3) := by decide +kernel
theorem dX8_layOn_24 : decode cX8_layOn 24 = .ok (.ifCond .ne 5, 3) := by decide +kernel
theorem dX8_layOn_27 : decode cX8_layOn 27 = .ok (.iload_n 2, 1) := by decide +kernel
theorem dX8_layOn_28 : decode cX8_layOn 28 = .ok (.ireturn, 1) := by decide +kernel
theorem dX8_layOn_29 : decode cX8_layOn 29 = .ok (.aload_n 0, 1) := by decide +kernel
theorem dX8_layOn_30 : decode cX8_layOn 30 = .ok (.getfield 42, 3) := by decide +kernel
theorem dX8_layOn_33 : decode cX8_layOn 33 = .ok (.iload_n 2, 1) := by decide +kernel
theorem dX8_layOn_34 : decode cX8_layOn 34 = .ok (.iload_n 1, 1) := by decide +kernel
theorem dX8_layOn_35 : decode cX8_layOn 35 = .ok (.bipush 9, 2) := by decide +kernel
theorem dX8_layOn_37 : decode cX8_layOn 37 = .ok (.if_icmp .gt 7, 3) := by decide +kernel
theorem dX8_layOn_40 : decode cX8_layOn 40 = .ok (.iload_n 1, 1) := by decide +kernel
theorem dX8_layOn_41 : decode cX8_layOn 41 = .ok (.goto 13, 3) := by decide +kernel
theorem dX8_layOn_44 : decode cX8_layOn 44 = .ok (.aload_n 0, 1) := by decide +kernel
theorem dX8_layOn_45 : decode cX8_layOn 45 = .ok (.getfield 42, 3) := by decide +kernel
theorem dX8_layOn_48 : decode cX8_layOn 48 = .ok (.iload_n 2, 1) := by decide +kernel
theorem dX8_layOn_49 : decode cX8_layOn 49 = .ok (.iconst 1, 1) := by decide +kernel
theorem dX8_layOn_50 : decode cX8_layOn 50 = .ok (.isub, 1) := by decide +kernel
theorem dX8_layOn_51 : decode cX8_layOn 51 = .ok (.invokestatic 144, 3) := by decide +kernel
theorem dX8_layOn_54 : decode cX8_layOn 54 = .ok (.iastore, 1) := by decide +kernel
theorem dX8_layOn_55 : decode cX8_layOn 55 = .ok (.iload_n 2, 1) := by decide +kernel
theorem dX8_layOn_56 : decode cX8_layOn 56 = .ok (.iconst 1, 1) := by decide +kernel
theorem dX8_layOn_57 : decode cX8_layOn 57 = .ok (.iadd, 1) := by decide +kernel
theorem dX8_layOn_58 : decode cX8_layOn 58 = .ok (.ireturn, 1) := by decide +kernel
theorem dX8_layOn_59 : decode cX8_layOn 59 = .ok (.iload_n 2, 1) := by decide +kernel
theorem dX8_layOn_60 : decode cX8_layOn 60 = .ok (.iconst 2, 1) := by decide +kernel
theorem dX8_layOn_61 : decode cX8_layOn 61 = .ok (.if_icmp .lt 12, 3) := by decide +kernel
theorem dX8_layOn_64 : decode cX8_layOn 64 = .ok (.iload_n 2, 1) := by decide +kernel
theorem dX8_layOn_65 : decode cX8_layOn 65 = .ok (.aload_n 0, 1) := by decide +kernel
theorem dX8_layOn_66 : decode cX8_layOn 66 = .ok (.getfield 42, 3) := by decide +kernel
theorem dX8_layOn_69 : decode cX8_layOn 69 = .ok (.arraylength, 1) := by decide +kernel
theorem dX8_layOn_70 : decode cX8_layOn 70 = .ok (.if_icmp .le 5, 3) := by decide +kernel
theorem dX8_layOn_73 : decode cX8_layOn 73 = .ok (.iload_n 2, 1) := by decide +kernel
theorem dX8_layOn_74 : decode cX8_layOn 74 = .ok (.ireturn, 1) := by decide +kernel
theorem dX8_layOn_75 : decode cX8_layOn 75 = .ok (.aload_n 0, 1) := by decide +kernel
theorem dX8_layOn_76 : decode cX8_layOn 76 = .ok (.getfield 42, 3) := by decide +kernel
theorem dX8_layOn_79 : decode cX8_layOn 79 = .ok (.iload_n 2, 1) := by decide +kernel
theorem dX8_layOn_80 : decode cX8_layOn 80 = .ok (.iconst 2, 1) := by decide +kernel
theorem dX8_layOn_81 : decode cX8_layOn 81 = .ok (.isub, 1) := by decide +kernel
theorem dX8_layOn_82 : decode cX8_layOn 82 = .ok (.iaload, 1) := by decide +kernel
theorem dX8_layOn_83 : decode cX8_layOn 83 = .ok (.istore_n 3, 1) := by decide +kernel
theorem dX8_layOn_84 : decode cX8_layOn 84 = .ok (.aload_n 0, 1) := by decide +kernel
theorem dX8_layOn_85 : decode cX8_layOn 85 = .ok (.getfield 42, 3) := by decide +kernel
theorem dX8_layOn_88 : decode cX8_layOn 88 = .ok (.iload_n 2, 1) := by decide +kernel
theorem dX8_layOn_89 : decode cX8_layOn 89 = .ok (.iconst 1, 1) := by decide +kernel
theorem dX8_layOn_90 : decode cX8_layOn 90 = .ok (.isub, 1) := by decide +kernel
theorem dX8_layOn_91 : decode cX8_layOn 91 = .ok (.iaload, 1) := by decide +kernel
theorem dX8_layOn_92 : decode cX8_layOn 92 = .ok (.istore 4, 2) := by decide +kernel
theorem dX8_layOn_94 : decode cX8_layOn 94 = .ok (.iload_n 1, 1) := by decide +kernel
theorem dX8_layOn_95 : decode cX8_layOn 95 = .ok (.tableswitch 70 10 12 #[25, 40, 55], 25) := by decide +kernel
theorem dX8_layOn_120 : decode cX8_layOn 120 = .ok (.aload_n 0, 1) := by decide +kernel
theorem dX8_layOn_121 : decode cX8_layOn 121 = .ok (.getfield 42, 3) := by decide +kernel
theorem dX8_layOn_124 : decode cX8_layOn 124 = .ok (.iload_n 2, 1) := by decide +kernel
theorem dX8_layOn_125 : decode cX8_layOn 125 = .ok (.iconst 2, 1) := by decide +kernel
theorem dX8_layOn_126 : decode cX8_layOn 126 = .ok (.isub, 1) := by decide +kernel
theorem dX8_layOn_127 : decode cX8_layOn 127 = .ok (.iload_n 3, 1) := by decide +kernel
theorem dX8_layOn_128 : decode cX8_layOn 128 = .ok (.iload 4, 2) := by decide +kernel
theorem dX8_layOn_130 : decode cX8_layOn 130 = .ok (.iadd, 1) := by decide +kernel
theorem dX8_layOn_131 : decode cX8_layOn 131 = .ok (.iastore, 1) := by decide +kernel
theorem dX8_layOn_132 : decode cX8_layOn 132 = .ok (.goto 43, 3) := by decide +kernel
theorem dX8_layOn_135 : decode cX8_layOn 135 = .ok (.aload_n 0, 1) := by decide +kernel
theorem dX8_layOn_136 : decode cX8_layOn 136 = .ok (.getfield 42, 3) := by decide +kernel
theorem dX8_layOn_139 : decode cX8_layOn 139 = .ok (.iload_n 2, 1) := by decide +kernel
theorem dX8_layOn_140 : decode cX8_layOn 140 = .ok (.iconst 2, 1) := by decide +kernel
theorem dX8_layOn_141 : decode cX8_layOn 141 = .ok (.isub, 1) := by decide +kernel
theorem dX8_layOn_142 : decode cX8_layOn 142 = .ok (.iload_n 3, 1) := by decide +kernel
theorem dX8_layOn_143 : decode cX8_layOn 143 = .ok (.iload 4, 2) := by decide +kernel
theorem dX8_layOn_145 : decode cX8_layOn 145 = .ok (.isub, 1) := by decide +kernel
theorem dX8_layOn_146 : decode cX8_layOn 146 = .ok (.iastore, 1) := by decide +kernel
theorem dX8_layOn_147 : decode cX8_layOn 147 = .ok (.goto 28, 3) := by decide +kernel
theorem dX8_layOn_150 : decode cX8_layOn 150 = .ok (.aload_n 0, 1) := by decide +kernel
theorem dX8_layOn_151 : decode cX8_layOn 151 = .ok (.getfield 42, 3) := by decide +kernel
theorem dX8_layOn_154 : decode cX8_layOn 154 = .ok (.iload_n 2, 1) := by decide +kernel
theorem dX8_layOn_155 : decode cX8_layOn 155 = .ok (.iconst 2, 1) := by decide +kernel
theorem dX8_layOn_156 : decode cX8_layOn 156 = .ok (.isub, 1) := by decide +kernel
theorem dX8_layOn_157 : decode cX8_layOn 157 = .ok (.iload_n 3, 1) := by decide +kernel
theorem dX8_layOn_158 : decode cX8_layOn 158 = .ok (.iload 4, 2) := by decide +kernel
theorem dX8_layOn_160 : decode cX8_layOn 160 = .ok (.imul, 1) := by decide +kernel
theorem dX8_layOn_161 : decode cX8_layOn 161 = .ok (.iastore, 1) := by decide +kernel
theorem dX8_layOn_162 : decode cX8_layOn 162 = .ok (.goto 13, 3) := by decide +kernel
theorem dX8_layOn_165 : decode cX8_layOn 165 = .ok (.aload_n 0, 1) := by decide +kernel
theorem dX8_layOn_166 : decode cX8_layOn 166 = .ok (.iload_n 2, 1) := by decide +kernel
theorem dX8_layOn_167 : decode cX8_layOn 167 = .ok (.iconst 2, 1) := by decide +kernel
theorem dX8_layOn_168 : decode cX8_layOn 168 = .ok (.isub, 1) := by decide +kernel
theorem dX8_layOn_169 : decode cX8_layOn 169 = .ok (.iload_n 2, 1) := by decide +kernel
theorem dX8_layOn_170 : decode cX8_layOn 170 = .ok (.iconst 1, 1) := by decide +kernel
theorem dX8_layOn_171 : decode cX8_layOn 171 = .ok (.isub, 1) := by decide +kernel
theorem dX8_layOn_172 : decode cX8_layOn 172 = .ok (.invokevirtual 118, 3) := by decide +kernel
theorem dX8_layOn_175 : decode cX8_layOn 175 = .ok (.iload_n 1, 1) := by decide +kernel
theorem dX8_layOn_176 : decode cX8_layOn 176 = .ok (.bipush 14, 2) := by decide +kernel
theorem dX8_layOn_178 : decode cX8_layOn 178 = .ok (.if_icmp .ne 7, 3) := by decide +kernel
theorem dX8_layOn_181 : decode cX8_layOn 181 = .ok (.iload_n 2, 1) := by decide +kernel
theorem dX8_layOn_182 : decode cX8_layOn 182 = .ok (.goto 6, 3) := by decide +kernel
theorem dX8_layOn_185 : decode cX8_layOn 185 = .ok (.iload_n 2, 1) := by decide +kernel
theorem dX8_layOn_186 : decode cX8_layOn 186 = .ok (.iconst 1, 1) := by decide +kernel
theorem dX8_layOn_187 : decode cX8_layOn 187 = .ok (.isub, 1) := by decide +kernel
theorem dX8_layOn_188 : decode cX8_layOn 188 = .ok (.ireturn, 1) := by decide +kernel
theorem dX8_runsOf_0 : decode cX8_runsOf 0 = .ok (.iconst 0, 1) := by decide +kernel
theorem dX8_runsOf_1 : decode cX8_runsOf 1 = .ok (.istore_n 2, 1) := by decide +kernel
theorem dX8_runsOf_2 : decode cX8_runsOf 2 = .ok (.iconst 0, 1) := by decide +kernel
theorem dX8_runsOf_3 : decode cX8_runsOf 3 = .ok (.istore_n 3, 1) := by decide +kernel
theorem dX8_runsOf_4 : decode cX8_runsOf 4 = .ok (.iload_n 3, 1) := by decide +kernel
theorem dX8_runsOf_5 : decode cX8_runsOf 5 = .ok (.aload_n 0, 1) := by decide +kernel
theorem dX8_runsOf_6 : decode cX8_runsOf 6 = .ok (.getfield 39, 3) := by decide +kernel
theorem dX8_runsOf_9 : decode cX8_runsOf 9 = .ok (.getfield 64, 3) := by decide +kernel
theorem dX8_runsOf_12 : decode cX8_runsOf 12 = .ok (.if_icmp .ge 57, 3) := by decide +kernel
theorem dX8_runsOf_15 : decode cX8_runsOf 15 = .ok (.iconst 0, 1) := by decide +kernel
theorem dX8_runsOf_16 : decode cX8_runsOf 16 = .ok (.istore 4, 2) := by decide +kernel
theorem dX8_runsOf_18 : decode cX8_runsOf 18 = .ok (.iload_n 3, 1) := by decide +kernel
theorem dX8_runsOf_19 : decode cX8_runsOf 19 = .ok (.istore 5, 2) := by decide +kernel
theorem dX8_runsOf_21 : decode cX8_runsOf 21 = .ok (.iload 5, 2) := by decide +kernel
theorem dX8_runsOf_23 : decode cX8_runsOf 23 = .ok (.aload_n 0, 1) := by decide +kernel
theorem dX8_runsOf_24 : decode cX8_runsOf 24 = .ok (.getfield 39, 3) := by decide +kernel
theorem dX8_runsOf_27 : decode cX8_runsOf 27 = .ok (.getfield 64, 3) := by decide +kernel
theorem dX8_runsOf_30 : decode cX8_runsOf 30 = .ok (.if_icmp .ge 33, 3) := by decide +kernel
theorem dX8_runsOf_33 : decode cX8_runsOf 33 = .ok (.iload 4, 2) := by decide +kernel
theorem dX8_runsOf_35 : decode cX8_runsOf 35 = .ok (.aload_n 0, 1) := by decide +kernel
theorem dX8_runsOf_36 : decode cX8_runsOf 36 = .ok (.getfield 39, 3) := by decide +kernel
theorem dX8_runsOf_39 : decode cX8_runsOf 39 = .ok (.iload 5, 2) := by decide +kernel
theorem dX8_runsOf_41 : decode cX8_runsOf 41 = .ok (.iconst 0, 1) := by decide +kernel
theorem dX8_runsOf_42 : decode cX8_runsOf 42 = .ok (.invokevirtual 68, 3) := by decide +kernel
theorem dX8_runsOf_45 : decode cX8_runsOf 45 = .ok (.iadd, 1) := by decide +kernel
theorem dX8_runsOf_46 : decode cX8_runsOf 46 = .ok (.istore 4, 2) := by decide +kernel
theorem dX8_runsOf_48 : decode cX8_runsOf 48 = .ok (.iload 4, 2) := by decide +kernel
theorem dX8_runsOf_50 : decode cX8_runsOf 50 = .ok (.iload_n 1, 1) := by decide +kernel
theorem dX8_runsOf_51 : decode cX8_runsOf 51 = .ok (.if_icmp .ne 6, 3) := by decide +kernel
theorem dX8_runsOf_54 : decode cX8_runsOf 54 = .ok (.iinc 2 1, 3) := by decide +kernel
theorem dX8_runsOf_57 : decode cX8_runsOf 57 = .ok (.iinc 5 1, 3) := by decide +kernel
theorem dX8_runsOf_60 : decode cX8_runsOf 60 = .ok (.goto (-39), 3) := by decide +kernel
theorem dX8_runsOf_63 : decode cX8_runsOf 63 = .ok (.iinc 3 1, 3) := by decide +kernel
theorem dX8_runsOf_66 : decode cX8_runsOf 66 = .ok (.goto (-62), 3) := by decide +kernel
theorem dX8_runsOf_69 : decode cX8_runsOf 69 = .ok (.iload_n 2, 1) := by decide +kernel
theorem dX8_runsOf_70 : decode cX8_runsOf 70 = .ok (.ireturn, 1) := by decide +kernel
theorem dX8_longestUnlike_0 : decode cX8_longestUnlike 0 = .ok (.iconst 0, 1) := by decide +kernel
theorem dX8_longestUnlike_1 : decode cX8_longestUnlike 1 = .ok (.istore_n 1, 1) := by decide +kernel
theorem dX8_longestUnlike_2 : decode cX8_longestUnlike 2 = .ok (.iconst 0, 1) := by decide +kernel
theorem dX8_longestUnlike_3 : decode cX8_longestUnlike 3 = .ok (.istore_n 2, 1) := by decide +kernel
theorem dX8_longestUnlike_4 : decode cX8_longestUnlike 4 = .ok (.iload_n 2, 1) := by decide +kernel
theorem dX8_longestUnlike_5 : decode cX8_longestUnlike 5 = .ok (.aload_n 0, 1) := by decide +kernel
theorem dX8_longestUnlike_6 : decode cX8_longestUnlike 6 = .ok (.getfield 39, 3) := by decide +kernel
theorem dX8_longestUnlike_9 : decode cX8_longestUnlike 9 = .ok (.getfield 64, 3) := by decide +kernel
theorem dX8_longestUnlike_12 : decode cX8_longestUnlike 12 = .ok (.if_icmp .ge 73, 3) := by decide +kernel
theorem dX8_longestUnlike_15 : decode cX8_longestUnlike 15 = .ok (.iconst 0, 1) := by decide +kernel
theorem dX8_longestUnlike_16 : decode cX8_longestUnlike 16 = .ok (.istore_n 3, 1) := by decide +kernel
theorem dX8_longestUnlike_17 : decode cX8_longestUnlike 17 = .ok (.iload_n 2, 1) := by decide +kernel
theorem dX8_longestUnlike_18 : decode cX8_longestUnlike 18 = .ok (.istore 4, 2) := by decide +kernel
theorem dX8_longestUnlike_20 : decode cX8_longestUnlike 20 = .ok (.iload 4, 2) := by decide +kernel
theorem dX8_longestUnlike_22 : decode cX8_longestUnlike 22 = .ok (.aload_n 0, 1) := by decide +kernel
theorem dX8_longestUnlike_23 : decode cX8_longestUnlike 23 = .ok (.getfield 39, 3) := by decide +kernel
theorem dX8_longestUnlike_26 : decode cX8_longestUnlike 26 = .ok (.getfield 64, 3) := by decide +kernel
theorem dX8_longestUnlike_29 : decode cX8_longestUnlike 29 = .ok (.if_icmp .ge 41, 3) := by decide +kernel
theorem dX8_longestUnlike_32 : decode cX8_longestUnlike 32 = .ok (.iload_n 3, 1) := by decide +kernel
theorem dX8_longestUnlike_33 : decode cX8_longestUnlike 33 = .ok (.aload_n 0, 1) := by decide +kernel
theorem dX8_longestUnlike_34 : decode cX8_longestUnlike 34 = .ok (.getfield 39, 3) := by decide +kernel
theorem dX8_longestUnlike_37 : decode cX8_longestUnlike 37 = .ok (.iload 4, 2) := by decide +kernel
theorem dX8_longestUnlike_39 : decode cX8_longestUnlike 39 = .ok (.iconst 0, 1) := by decide +kernel
theorem dX8_longestUnlike_40 : decode cX8_longestUnlike 40 = .ok (.invokevirtual 68, 3) := by decide +kernel
theorem dX8_longestUnlike_43 : decode cX8_longestUnlike 43 = .ok (.ishr, 1) := by decide +kernel
theorem dX8_longestUnlike_44 : decode cX8_longestUnlike 44 = .ok (.iconst 1, 1) := by decide +kernel
theorem dX8_longestUnlike_45 : decode cX8_longestUnlike 45 = .ok (.iand, 1) := by decide +kernel
theorem dX8_longestUnlike_46 : decode cX8_longestUnlike 46 = .ok (.ifCond .ne 24, 3) := by decide +kernel
theorem dX8_longestUnlike_49 : decode cX8_longestUnlike 49 = .ok (.iload_n 3, 1) := by decide +kernel
theorem dX8_longestUnlike_50 : decode cX8_longestUnlike 50 = .ok (.iconst 1, 1) := by decide +kernel
theorem dX8_longestUnlike_51 : decode cX8_longestUnlike 51 = .ok (.aload_n 0, 1) := by decide +kernel
theorem dX8_longestUnlike_52 : decode cX8_longestUnlike 52 = .ok (.getfield 39, 3) := by decide +kernel
theorem dX8_longestUnlike_55 : decode cX8_longestUnlike 55 = .ok (.iload 4, 2) := by decide +kernel
theorem dX8_longestUnlike_57 : decode cX8_longestUnlike 57 = .ok (.iconst 0, 1) := by decide +kernel
theorem dX8_longestUnlike_58 : decode cX8_longestUnlike 58 = .ok (.invokevirtual 68, 3) := by decide +kernel
theorem dX8_longestUnlike_61 : decode cX8_longestUnlike 61 = .ok (.ishl, 1) := by decide +kernel
theorem dX8_longestUnlike_62 : decode cX8_longestUnlike 62 = .ok (.ior, 1) := by decide +kernel
theorem dX8_longestUnlike_63 : decode cX8_longestUnlike 63 = .ok (.istore_n 3, 1) := by decide +kernel
theorem dX8_longestUnlike_64 : decode cX8_longestUnlike 64 = .ok (.iinc 4 1, 3) := by decide +kernel
theorem dX8_longestUnlike_67 : decode cX8_longestUnlike 67 = .ok (.goto (-47), 3) := by decide +kernel
theorem dX8_longestUnlike_70 : decode cX8_longestUnlike 70 = .ok (.iload_n 1, 1) := by decide +kernel
theorem dX8_longestUnlike_71 : decode cX8_longestUnlike 71 = .ok (.iload 4, 2) := by decide +kernel
theorem dX8_longestUnlike_73 : decode cX8_longestUnlike 73 = .ok (.iload_n 2, 1) := by decide +kernel
theorem dX8_longestUnlike_74 : decode cX8_longestUnlike 74 = .ok (.isub, 1) := by decide +kernel
theorem dX8_longestUnlike_75 : decode cX8_longestUnlike 75 = .ok (.invokestatic 102, 3) := by decide +kernel
theorem dX8_longestUnlike_78 : decode cX8_longestUnlike 78 = .ok (.istore_n 1, 1) := by decide +kernel
theorem dX8_longestUnlike_79 : decode cX8_longestUnlike 79 = .ok (.iinc 2 1, 3) := by decide +kernel
theorem dX8_longestUnlike_82 : decode cX8_longestUnlike 82 = .ok (.goto (-78), 3) := by decide +kernel
theorem dX8_longestUnlike_85 : decode cX8_longestUnlike 85 = .ok (.iload_n 1, 1) := by decide +kernel
theorem dX8_longestUnlike_86 : decode cX8_longestUnlike 86 = .ok (.ireturn, 1) := by decide +kernel
theorem dX8_mostOften_0 : decode cX8_mostOften 0 = .ok (.iconst (-1), 1) := by decide +kernel
theorem dX8_mostOften_1 : decode cX8_mostOften 1 = .ok (.istore_n 1, 1) := by decide +kernel
theorem dX8_mostOften_2 : decode cX8_mostOften 2 = .ok (.iconst 0, 1) := by decide +kernel
theorem dX8_mostOften_3 : decode cX8_mostOften 3 = .ok (.istore_n 2, 1) := by decide +kernel
theorem dX8_mostOften_4 : decode cX8_mostOften 4 = .ok (.iconst 0, 1) := by decide +kernel
theorem dX8_mostOften_5 : decode cX8_mostOften 5 = .ok (.istore_n 3, 1) := by decide +kernel
theorem dX8_mostOften_6 : decode cX8_mostOften 6 = .ok (.iload_n 3, 1) := by decide +kernel
theorem dX8_mostOften_7 : decode cX8_mostOften 7 = .ok (.bipush 9, 2) := by decide +kernel
theorem dX8_mostOften_9 : decode cX8_mostOften 9 = .ok (.if_icmp .gt 32, 3) := by decide +kernel
theorem dX8_mostOften_12 : decode cX8_mostOften 12 = .ok (.aload_n 0, 1) := by decide +kernel
theorem dX8_mostOften_13 : decode cX8_mostOften 13 = .ok (.getfield 39, 3) := by decide +kernel
theorem dX8_mostOften_16 : decode cX8_mostOften 16 = .ok (.iconst 0, 1) := by decide +kernel
theorem dX8_mostOften_17 : decode cX8_mostOften 17 = .ok (.iload_n 3, 1) := by decide +kernel
theorem dX8_mostOften_18 : decode cX8_mostOften 18 = .ok (.iconst 0, 1) := by decide +kernel
theorem dX8_mostOften_19 : decode cX8_mostOften 19 = .ok (.invokevirtual 132, 3) := by decide +kernel
theorem dX8_mostOften_22 : decode cX8_mostOften 22 = .ok (.istore 4, 2) := by decide +kernel
theorem dX8_mostOften_24 : decode cX8_mostOften 24 = .ok (.iload 4, 2) := by decide +kernel
theorem dX8_mostOften_26 : decode cX8_mostOften 26 = .ok (.iload_n 2, 1) := by decide +kernel
theorem dX8_mostOften_27 : decode cX8_mostOften 27 = .ok (.if_icmp .le 8, 3) := by decide +kernel
theorem dX8_mostOften_30 : decode cX8_mostOften 30 = .ok (.iload_n 3, 1) := by decide +kernel
theorem dX8_mostOften_31 : decode cX8_mostOften 31 = .ok (.istore_n 1, 1) := by decide +kernel
theorem dX8_mostOften_32 : decode cX8_mostOften 32 = .ok (.iload 4, 2) := by decide +kernel
theorem dX8_mostOften_34 : decode cX8_mostOften 34 = .ok (.istore_n 2, 1) := by decide +kernel
theorem dX8_mostOften_35 : decode cX8_mostOften 35 = .ok (.iinc 3 1, 3) := by decide +kernel
theorem dX8_mostOften_38 : decode cX8_mostOften 38 = .ok (.goto (-32), 3) := by decide +kernel
theorem dX8_mostOften_41 : decode cX8_mostOften 41 = .ok (.iload_n 1, 1) := by decide +kernel
theorem dX8_mostOften_42 : decode cX8_mostOften 42 = .ok (.ireturn, 1) := by decide +kernel
theorem dX8_fewestToOpen_0 : decode cX8_fewestToOpen 0 = .ok (.aload_n 0, 1) := by decide +kernel
theorem dX8_fewestToOpen_1 : decode cX8_fewestToOpen 1 = .ok (.ldc2_w 148, 3) := by decide +kernel
theorem dX8_fewestToOpen_4 : decode cX8_fewestToOpen 4 = .ok (.aload_n 0, 1) := by decide +kernel
theorem dX8_fewestToOpen_5 : decode cX8_fewestToOpen 5 = .ok (.getfield 55, 3) := by decide +kernel
theorem dX8_fewestToOpen_8 : decode cX8_fewestToOpen 8 = .ok (.land, 1) := by decide +kernel
theorem dX8_fewestToOpen_9 : decode cX8_fewestToOpen 9 = .ok (.invokevirtual 150, 3) := by decide +kernel
theorem dX8_fewestToOpen_12 : decode cX8_fewestToOpen 12 = .ok (.lstore_n 1, 1) := by decide +kernel
theorem dX8_fewestToOpen_13 : decode cX8_fewestToOpen 13 = .ok (.iconst 0, 1) := by decide +kernel
theorem dX8_fewestToOpen_14 : decode cX8_fewestToOpen 14 = .ok (.istore_n 3, 1) := by decide +kernel
theorem dX8_fewestToOpen_15 : decode cX8_fewestToOpen 15 = .ok (.iload_n 3, 1) := by decide +kernel
theorem dX8_fewestToOpen_16 : decode cX8_fewestToOpen 16 = .ok (.bipush 6, 2) := by decide +kernel
theorem dX8_fewestToOpen_18 : decode cX8_fewestToOpen 18 = .ok (.if_icmp .ge 36, 3) := by decide +kernel
theorem dX8_fewestToOpen_21 : decode cX8_fewestToOpen 21 = .ok (.lload_n 1, 1) := by decide +kernel
theorem dX8_fewestToOpen_22 : decode cX8_fewestToOpen 22 = .ok (.ldc2_w 154, 3) := by decide +kernel
theorem dX8_fewestToOpen_25 : decode cX8_fewestToOpen 25 = .ok (.land, 1) := by decide +kernel
theorem dX8_fewestToOpen_26 : decode cX8_fewestToOpen 26 = .ok (.lconst 0, 1) := by decide +kernel
theorem dX8_fewestToOpen_27 : decode cX8_fewestToOpen 27 = .ok (.lcmp, 1) := by decide +kernel
theorem dX8_fewestToOpen_28 : decode cX8_fewestToOpen 28 = .ok (.ifCond .eq 5, 3) := by decide +kernel
theorem dX8_fewestToOpen_31 : decode cX8_fewestToOpen 31 = .ok (.iload_n 3, 1) := by decide +kernel
theorem dX8_fewestToOpen_32 : decode cX8_fewestToOpen 32 = .ok (.ireturn, 1) := by decide +kernel
theorem dX8_fewestToOpen_33 : decode cX8_fewestToOpen 33 = .ok (.aload_n 0, 1) := by decide +kernel
theorem dX8_fewestToOpen_34 : decode cX8_fewestToOpen 34 = .ok (.lload_n 1, 1) := by decide +kernel
theorem dX8_fewestToOpen_35 : decode cX8_fewestToOpen 35 = .ok (.lload_n 1, 1) := by decide +kernel
theorem dX8_fewestToOpen_36 : decode cX8_fewestToOpen 36 = .ok (.invokestatic 156, 3) := by decide +kernel
theorem dX8_fewestToOpen_39 : decode cX8_fewestToOpen 39 = .ok (.lor, 1) := by decide +kernel
theorem dX8_fewestToOpen_40 : decode cX8_fewestToOpen 40 = .ok (.ldc2_w 148, 3) := by decide +kernel
theorem dX8_fewestToOpen_43 : decode cX8_fewestToOpen 43 = .ok (.lor, 1) := by decide +kernel
theorem dX8_fewestToOpen_44 : decode cX8_fewestToOpen 44 = .ok (.invokevirtual 150, 3) := by decide +kernel
theorem dX8_fewestToOpen_47 : decode cX8_fewestToOpen 47 = .ok (.lstore_n 1, 1) := by decide +kernel
theorem dX8_fewestToOpen_48 : decode cX8_fewestToOpen 48 = .ok (.iinc 3 1, 3) := by decide +kernel
theorem dX8_fewestToOpen_51 : decode cX8_fewestToOpen 51 = .ok (.goto (-36), 3) := by decide +kernel
theorem dX8_fewestToOpen_54 : decode cX8_fewestToOpen 54 = .ok (.bipush 6, 2) := by decide +kernel
theorem dX8_fewestToOpen_56 : decode cX8_fewestToOpen 56 = .ok (.ireturn, 1) := by decide +kernel
theorem dX8_spread_0 : decode cX8_spread 0 = .ok (.lload_n 1, 1) := by decide +kernel
theorem dX8_spread_1 : decode cX8_spread 1 = .ok (.lstore_n 3, 1) := by decide +kernel
theorem dX8_spread_2 : decode cX8_spread 2 = .ok (.iconst 0, 1) := by decide +kernel
theorem dX8_spread_3 : decode cX8_spread 3 = .ok (.istore 5, 2) := by decide +kernel
theorem dX8_spread_5 : decode cX8_spread 5 = .ok (.iload 5, 2) := by decide +kernel
theorem dX8_spread_7 : decode cX8_spread 7 = .ok (.bipush 36, 2) := by decide +kernel
theorem dX8_spread_9 : decode cX8_spread 9 = .ok (.if_icmp .ge 34, 3) := by decide +kernel
theorem dX8_spread_12 : decode cX8_spread 12 = .ok (.lload_n 3, 1) := by decide +kernel
theorem dX8_spread_13 : decode cX8_spread 13 = .ok (.lload_n 3, 1) := by decide +kernel
theorem dX8_spread_14 : decode cX8_spread 14 = .ok (.invokestatic 156, 3) := by decide +kernel
theorem dX8_spread_17 : decode cX8_spread 17 = .ok (.aload_n 0, 1) := by decide +kernel
theorem dX8_spread_18 : decode cX8_spread 18 = .ok (.getfield 55, 3) := by decide +kernel
theorem dX8_spread_21 : decode cX8_spread 21 = .ok (.land, 1) := by decide +kernel
theorem dX8_spread_22 : decode cX8_spread 22 = .ok (.lor, 1) := by decide +kernel
theorem dX8_spread_23 : decode cX8_spread 23 = .ok (.lstore 6, 2) := by decide +kernel
theorem dX8_spread_25 : decode cX8_spread 25 = .ok (.lload 6, 2) := by decide +kernel
theorem dX8_spread_27 : decode cX8_spread 27 = .ok (.lload_n 3, 1) := by decide +kernel
theorem dX8_spread_28 : decode cX8_spread 28 = .ok (.lcmp, 1) := by decide +kernel
theorem dX8_spread_29 : decode cX8_spread 29 = .ok (.ifCond .ne 5, 3) := by decide +kernel
theorem dX8_spread_32 : decode cX8_spread 32 = .ok (.lload_n 3, 1) := by decide +kernel
theorem dX8_spread_33 : decode cX8_spread 33 = .ok (.lreturn, 1) := by decide +kernel
theorem dX8_spread_34 : decode cX8_spread 34 = .ok (.lload 6, 2) := by decide +kernel
theorem dX8_spread_36 : decode cX8_spread 36 = .ok (.lstore_n 3, 1) := by decide +kernel
theorem dX8_spread_37 : decode cX8_spread 37 = .ok (.iinc 5 1, 3) := by decide +kernel
theorem dX8_spread_40 : decode cX8_spread 40 = .ok (.goto (-35), 3) := by decide +kernel
theorem dX8_spread_43 : decode cX8_spread 43 = .ok (.lload_n 3, 1) := by decide +kernel
theorem dX8_spread_44 : decode cX8_spread 44 = .ok (.lreturn, 1) := by decide +kernel
theorem dX8_beside_0 : decode cX8_beside 0 = .ok (.lload_n 0, 1) := by decide +kernel
theorem dX8_beside_1 : decode cX8_beside 1 = .ok (.ldc2_w 159, 3) := by decide +kernel
theorem dX8_beside_4 : decode cX8_beside 4 = .ok (.land, 1) := by decide +kernel
theorem dX8_beside_5 : decode cX8_beside 5 = .ok (.iconst 1, 1) := by decide +kernel
theorem dX8_beside_6 : decode cX8_beside 6 = .ok (.lshl, 1) := by decide +kernel
theorem dX8_beside_7 : decode cX8_beside 7 = .ok (.lload_n 0, 1) := by decide +kernel
theorem dX8_beside_8 : decode cX8_beside 8 = .ok (.ldc2_w 161, 3) := by decide +kernel
theorem dX8_beside_11 : decode cX8_beside 11 = .ok (.land, 1) := by decide +kernel
theorem dX8_beside_12 : decode cX8_beside 12 = .ok (.iconst 1, 1) := by decide +kernel
theorem dX8_beside_13 : decode cX8_beside 13 = .ok (.lushr, 1) := by decide +kernel
theorem dX8_beside_14 : decode cX8_beside 14 = .ok (.lor, 1) := by decide +kernel
theorem dX8_beside_15 : decode cX8_beside 15 = .ok (.lstore_n 2, 1) := by decide +kernel
theorem dX8_beside_16 : decode cX8_beside 16 = .ok (.lload_n 2, 1) := by decide +kernel
theorem dX8_beside_17 : decode cX8_beside 17 = .ok (.lload_n 0, 1) := by decide +kernel
theorem dX8_beside_18 : decode cX8_beside 18 = .ok (.bipush 6, 2) := by decide +kernel
theorem dX8_beside_20 : decode cX8_beside 20 = .ok (.lshl, 1) := by decide +kernel
theorem dX8_beside_21 : decode cX8_beside 21 = .ok (.lor, 1) := by decide +kernel
theorem dX8_beside_22 : decode cX8_beside 22 = .ok (.lload_n 0, 1) := by decide +kernel
theorem dX8_beside_23 : decode cX8_beside 23 = .ok (.bipush 6, 2) := by decide +kernel
theorem dX8_beside_25 : decode cX8_beside 25 = .ok (.lushr, 1) := by decide +kernel
theorem dX8_beside_26 : decode cX8_beside 26 = .ok (.lor, 1) := by decide +kernel
theorem dX8_beside_27 : decode cX8_beside 27 = .ok (.ldc2_w 163, 3) := by decide +kernel
theorem dX8_beside_30 : decode cX8_beside 30 = .ok (.land, 1) := by decide +kernel
theorem dX8_beside_31 : decode cX8_beside 31 = .ok (.lreturn, 1) := by decide +kernel
theorem dX9_init_0 : decode cX9_init 0 = .ok (.aload_n 0, 1) := by decide +kernel
theorem dX9_init_1 : decode cX9_init 1 = .ok (.invokespecial 3, 3) := by decide +kernel
theorem dX9_init_4 : decode cX9_init 4 = .ok (.aload_n 0, 1) := by decide +kernel
theorem dX9_init_5 : decode cX9_init 5 = .ok (.bipush 9, 2) := by decide +kernel
theorem dX9_init_7 : decode cX9_init 7 = .ok (.newarray .int, 2) := by decide +kernel
theorem dX9_init_9 : decode cX9_init 9 = .ok (.putfield 11, 3) := by decide +kernel
theorem dX9_init_12 : decode cX9_init 12 = .ok (.aload_n 0, 1) := by decide +kernel
theorem dX9_init_13 : decode cX9_init 13 = .ok (.aload_n 1, 1) := by decide +kernel
theorem dX9_init_14 : decode cX9_init 14 = .ok (.putfield 17, 3) := by decide +kernel
theorem dX9_init_17 : decode cX9_init 17 = .ok (.aload_n 0, 1) := by decide +kernel
theorem dX9_init_18 : decode cX9_init 18 = .ok (.aload_n 2, 1) := by decide +kernel
theorem dX9_init_19 : decode cX9_init 19 = .ok (.putfield 21, 3) := by decide +kernel
theorem dX9_init_22 : decode cX9_init 22 = .ok (.aload_n 0, 1) := by decide +kernel
theorem dX9_init_23 : decode cX9_init 23 = .ok (.aload_n 3, 1) := by decide +kernel
theorem dX9_init_24 : decode cX9_init 24 = .ok (.putfield 25, 3) := by decide +kernel
theorem dX9_init_27 : decode cX9_init 27 = .ok (.aload_n 0, 1) := by decide +kernel
theorem dX9_init_28 : decode cX9_init 28 = .ok (.iload 4, 2) := by decide +kernel
theorem dX9_init_30 : decode cX9_init 30 = .ok (.putfield 29, 3) := by decide +kernel
theorem dX9_init_33 : decode cX9_init 33 = .ok (.return_, 1) := by decide +kernel
theorem dX9_mayDo_0 : decode cX9_mayDo 0 = .ok (.aload_n 0, 1) := by decide +kernel
theorem dX9_mayDo_1 : decode cX9_mayDo 1 = .ok (.getfield 17, 3) := by decide +kernel
theorem dX9_mayDo_4 : decode cX9_mayDo 4 = .ok (.getfield 33, 3) := by decide +kernel
theorem dX9_mayDo_7 : decode cX9_mayDo 7 = .ok (.astore 4, 2) := by decide +kernel
theorem dX9_mayDo_9 : decode cX9_mayDo 9 = .ok (.iload_n 1, 1) := by decide +kernel
theorem dX9_mayDo_10 : decode cX9_mayDo 10 = .ok (.iconst 3, 1) := by decide +kernel
theorem dX9_mayDo_11 : decode cX9_mayDo 11 = .ok (.if_icmp .ne 34, 3) := by decide +kernel
theorem dX9_mayDo_14 : decode cX9_mayDo 14 = .ok (.aload_n 0, 1) := by decide +kernel
theorem dX9_mayDo_15 : decode cX9_mayDo 15 = .ok (.getfield 17, 3) := by decide +kernel
theorem dX9_mayDo_18 : decode cX9_mayDo 18 = .ok (.getfield 38, 3) := by decide +kernel
theorem dX9_mayDo_21 : decode cX9_mayDo 21 = .ok (.iload_n 2, 1) := by decide +kernel
theorem dX9_mayDo_22 : decode cX9_mayDo 22 = .ok (.invokevirtual 41, 3) := by decide +kernel
theorem dX9_mayDo_25 : decode cX9_mayDo 25 = .ok (.ifCond .eq 18, 3) := by decide +kernel
theorem dX9_mayDo_28 : decode cX9_mayDo 28 = .ok (.aload_n 0, 1) := by decide +kernel
theorem dX9_mayDo_29 : decode cX9_mayDo 29 = .ok (.getfield 17, 3) := by decide +kernel
theorem dX9_mayDo_32 : decode cX9_mayDo 32 = .ok (.iload_n 2, 1) := by decide +kernel
theorem dX9_mayDo_33 : decode cX9_mayDo 33 = .ok (.invokevirtual 47, 3) := by decide +kernel
theorem dX9_mayDo_36 : decode cX9_mayDo 36 = .ok (.ifCond .eq 7, 3) := by decide +kernel
theorem dX9_mayDo_39 : decode cX9_mayDo 39 = .ok (.iconst 1, 1) := by decide +kernel
theorem dX9_mayDo_40 : decode cX9_mayDo 40 = .ok (.goto 4, 3) := by decide +kernel
theorem dX9_mayDo_43 : decode cX9_mayDo 43 = .ok (.iconst 0, 1) := by decide +kernel
theorem dX9_mayDo_44 : decode cX9_mayDo 44 = .ok (.ireturn, 1) := by decide +kernel
theorem dX9_mayDo_45 : decode cX9_mayDo 45 = .ok (.aload 4, 2) := by decide +kernel
theorem dX9_mayDo_47 : decode cX9_mayDo 47 = .ok (.iload_n 2, 1) := by decide +kernel
theorem dX9_mayDo_48 : decode cX9_mayDo 48 = .ok (.invokevirtual 41, 3) := by decide +kernel
theorem dX9_mayDo_51 : decode cX9_mayDo 51 = .ok (.ifCond .ne 5, 3) := by decide +kernel
theorem dX9_mayDo_54 : decode cX9_mayDo 54 = .ok (.iconst 0, 1) := by decide +kernel
theorem dX9_mayDo_55 : decode cX9_mayDo 55 = .ok (.ireturn, 1) := by decide +kernel
theorem dX9_mayDo_56 : decode cX9_mayDo 56 = .ok (.aload 4, 2) := by decide +kernel
theorem dX9_mayDo_58 : decode cX9_mayDo 58 = .ok (.iload_n 2, 1) := by decide +kernel
theorem dX9_mayDo_59 : decode cX9_mayDo 59 = .ok (.iconst 0, 1) := by decide +kernel
theorem dX9_mayDo_60 : decode cX9_mayDo 60 = .ok (.invokevirtual 50, 3) := by decide +kernel
theorem dX9_mayDo_63 : decode cX9_mayDo 63 = .ok (.istore 5, 2) := by decide +kernel
theorem dX9_mayDo_65 : decode cX9_mayDo 65 = .ok (.aload 4, 2) := by decide +kernel
theorem dX9_mayDo_67 : decode cX9_mayDo 67 = .ok (.iload_n 2, 1) := by decide +kernel
theorem dX9_mayDo_68 : decode cX9_mayDo 68 = .ok (.iconst 2, 1) := by decide +kernel
theorem dX9_mayDo_69 : decode cX9_mayDo 69 = .ok (.invokevirtual 50, 3) := by decide +kernel
theorem dX9_mayDo_72 : decode cX9_mayDo 72 = .ok (.istore 6, 2) := by decide +kernel
theorem dX9_mayDo_74 : decode cX9_mayDo 74 = .ok (.iload_n 1, 1) := by decide +kernel
theorem dX9_mayDo_75 : decode cX9_mayDo 75 = .ok (.tableswitch 145 0 2 #[25, 52, 88], 25) := by decide +kernel
theorem dX9_mayDo_100 : decode cX9_mayDo 100 = .ok (.iload_n 3, 1) := by decide +kernel
theorem dX9_mayDo_101 : decode cX9_mayDo 101 = .ok (.iconst 0, 1) := by decide +kernel
theorem dX9_mayDo_102 : decode cX9_mayDo 102 = .ok (.bipush 19, 2) := by decide +kernel
theorem dX9_mayDo_104 : decode cX9_mayDo 104 = .ok (.invokestatic 54, 3) := by decide +kernel
theorem dX9_mayDo_107 : decode cX9_mayDo 107 = .ok (.ifCond .eq 18, 3) := by decide +kernel
theorem dX9_mayDo_110 : decode cX9_mayDo 110 = .ok (.iload_n 3, 1) := by decide +kernel
theorem dX9_mayDo_111 : decode cX9_mayDo 111 = .ok (.aload 4, 2) := by decide +kernel
theorem dX9_mayDo_113 : decode cX9_mayDo 113 = .ok (.iload_n 2, 1) := by decide +kernel
theorem dX9_mayDo_114 : decode cX9_mayDo 114 = .ok (.iconst 1, 1) := by decide +kernel
theorem dX9_mayDo_115 : decode cX9_mayDo 115 = .ok (.invokevirtual 50, 3) := by decide +kernel
theorem dX9_mayDo_118 : decode cX9_mayDo 118 = .ok (.if_icmp .eq 7, 3) := by decide +kernel
theorem dX9_mayDo_121 : decode cX9_mayDo 121 = .ok (.iconst 1, 1) := by decide +kernel
theorem dX9_mayDo_122 : decode cX9_mayDo 122 = .ok (.goto 4, 3) := by decide +kernel
theorem dX9_mayDo_125 : decode cX9_mayDo 125 = .ok (.iconst 0, 1) := by decide +kernel
theorem dX9_mayDo_126 : decode cX9_mayDo 126 = .ok (.ireturn, 1) := by decide +kernel
theorem dX9_mayDo_127 : decode cX9_mayDo 127 = .ok (.iload_n 3, 1) := by decide +kernel
theorem dX9_mayDo_128 : decode cX9_mayDo 128 = .ok (.iconst 1, 1) := by decide +kernel
theorem dX9_mayDo_129 : decode cX9_mayDo 129 = .ok (.bipush 40, 2) := by decide +kernel
theorem dX9_mayDo_131 : decode cX9_mayDo 131 = .ok (.invokestatic 54, 3) := by decide +kernel
theorem dX9_mayDo_134 : decode cX9_mayDo 134 = .ok (.ifCond .eq 27, 3) := by decide +kernel
theorem dX9_mayDo_137 : decode cX9_mayDo 137 = .ok (.iload 6, 2) := by decide +kernel
theorem dX9_mayDo_139 : decode cX9_mayDo 139 = .ok (.bipush 40, 2) := by decide +kernel
theorem dX9_mayDo_141 : decode cX9_mayDo 141 = .ok (.if_icmp .ge 20, 3) := by decide +kernel
theorem dX9_mayDo_144 : decode cX9_mayDo 144 = .ok (.aload_n 0, 1) := by decide +kernel
theorem dX9_mayDo_145 : decode cX9_mayDo 145 = .ok (.getfield 17, 3) := by decide +kernel
theorem dX9_mayDo_148 : decode cX9_mayDo 148 = .ok (.iload 5, 2) := by decide +kernel
theorem dX9_mayDo_150 : decode cX9_mayDo 150 = .ok (.invokevirtual 58, 3) := by decide +kernel
theorem dX9_mayDo_153 : decode cX9_mayDo 153 = .ok (.iconst (-1), 1) := by decide +kernel
theorem dX9_mayDo_154 : decode cX9_mayDo 154 = .ok (.if_icmp .eq 7, 3) := by decide +kernel
theorem dX9_mayDo_157 : decode cX9_mayDo 157 = .ok (.iconst 1, 1) := by decide +kernel
theorem dX9_mayDo_158 : decode cX9_mayDo 158 = .ok (.goto 4, 3) := by decide +kernel
theorem dX9_mayDo_161 : decode cX9_mayDo 161 = .ok (.iconst 0, 1) := by decide +kernel
theorem dX9_mayDo_162 : decode cX9_mayDo 162 = .ok (.ireturn, 1) := by decide +kernel
theorem dX9_mayDo_163 : decode cX9_mayDo 163 = .ok (.aload_n 0, 1) := by decide +kernel
theorem dX9_mayDo_164 : decode cX9_mayDo 164 = .ok (.getfield 17, 3) := by decide +kernel
theorem dX9_mayDo_167 : decode cX9_mayDo 167 = .ok (.getfield 62, 3) := by decide +kernel
theorem dX9_mayDo_170 : decode cX9_mayDo 170 = .ok (.iload_n 3, 1) := by decide +kernel
theorem dX9_mayDo_171 : decode cX9_mayDo 171 = .ok (.invokevirtual 41, 3) := by decide +kernel
theorem dX9_mayDo_174 : decode cX9_mayDo 174 = .ok (.ifCond .eq 44, 3) := by decide +kernel
theorem dX9_mayDo_177 : decode cX9_mayDo 177 = .ok (.aload_n 0, 1) := by decide +kernel
theorem dX9_mayDo_178 : decode cX9_mayDo 178 = .ok (.getfield 17, 3) := by decide +kernel
theorem dX9_mayDo_181 : decode cX9_mayDo 181 = .ok (.getfield 62, 3) := by decide +kernel
theorem dX9_mayDo_184 : decode cX9_mayDo 184 = .ok (.iload_n 3, 1) := by decide +kernel
theorem dX9_mayDo_185 : decode cX9_mayDo 185 = .ok (.iconst 0, 1) := by decide +kernel
theorem dX9_mayDo_186 : decode cX9_mayDo 186 = .ok (.invokevirtual 50, 3) := by decide +kernel
theorem dX9_mayDo_189 : decode cX9_mayDo 189 = .ok (.iload 5, 2) := by decide +kernel
theorem dX9_mayDo_191 : decode cX9_mayDo 191 = .ok (.if_icmp .ne 27, 3) := by decide +kernel
theorem dX9_mayDo_194 : decode cX9_mayDo 194 = .ok (.iload 6, 2) := by decide +kernel
theorem dX9_mayDo_196 : decode cX9_mayDo 196 = .ok (.ifCond .le 22, 3) := by decide +kernel
theorem dX9_mayDo_199 : decode cX9_mayDo 199 = .ok (.aload_n 0, 1) := by decide +kernel
theorem dX9_mayDo_200 : decode cX9_mayDo 200 = .ok (.getfield 17, 3) := by decide +kernel
theorem dX9_mayDo_203 : decode cX9_mayDo 203 = .ok (.getfield 62, 3) := by decide +kernel
theorem dX9_mayDo_206 : decode cX9_mayDo 206 = .ok (.iload_n 3, 1) := by decide +kernel
theorem dX9_mayDo_207 : decode cX9_mayDo 207 = .ok (.iconst 1, 1) := by decide +kernel
theorem dX9_mayDo_208 : decode cX9_mayDo 208 = .ok (.invokevirtual 50, 3) := by decide +kernel
theorem dX9_mayDo_211 : decode cX9_mayDo 211 = .ok (.ifCond .le 7, 3) := by decide +kernel
theorem dX9_mayDo_214 : decode cX9_mayDo 214 = .ok (.iconst 1, 1) := by decide +kernel
theorem dX9_mayDo_215 : decode cX9_mayDo 215 = .ok (.goto 4, 3) := by decide +kernel
theorem dX9_mayDo_218 : decode cX9_mayDo 218 = .ok (.iconst 0, 1) := by decide +kernel
theorem dX9_mayDo_219 : decode cX9_mayDo 219 = .ok (.ireturn, 1) := by decide +kernel
theorem dX9_mayDo_220 : decode cX9_mayDo 220 = .ok (.iconst 0, 1) := by decide +kernel
theorem dX9_mayDo_221 : decode cX9_mayDo 221 = .ok (.ireturn, 1) := by decide +kernel
theorem dX9_doByHand_0 : decode cX9_doByHand 0 = .ok (.iload_n 1, 1) := by decide +kernel
theorem dX9_doByHand_1 : decode cX9_doByHand 1 = .ok (.tableswitch 83 0 3 #[31, 47, 56, 67], 31) := by decide +kernel
theorem dX9_doByHand_32 : decode cX9_doByHand 32 = .ok (.aload_n 0, 1) := by decide +kernel
theorem dX9_doByHand_33 : decode cX9_doByHand 33 = .ok (.getfield 17, 3) := by decide +kernel
theorem dX9_doByHand_36 : decode cX9_doByHand 36 = .ok (.getfield 33, 3) := by decide +kernel
theorem dX9_doByHand_39 : decode cX9_doByHand 39 = .ok (.iload_n 2, 1) := by decide +kernel
theorem dX9_doByHand_40 : decode cX9_doByHand 40 = .ok (.iconst 1, 1) := by decide +kernel
theorem dX9_doByHand_41 : decode cX9_doByHand 41 = .ok (.iload_n 3, 1) := by decide +kernel
theorem dX9_doByHand_42 : decode cX9_doByHand 42 = .ok (.invokevirtual 65, 3) := by decide +kernel
theorem dX9_doByHand_45 : decode cX9_doByHand 45 = .ok (.goto 39, 3) := by decide +kernel
theorem dX9_doByHand_48 : decode cX9_doByHand 48 = .ok (.aload_n 0, 1) := by decide +kernel
theorem dX9_doByHand_49 : decode cX9_doByHand 49 = .ok (.iload_n 2, 1) := by decide +kernel
theorem dX9_doByHand_50 : decode cX9_doByHand 50 = .ok (.iload_n 3, 1) := by decide +kernel
theorem dX9_doByHand_51 : decode cX9_doByHand 51 = .ok (.invokevirtual 69, 3) := by decide +kernel
theorem dX9_doByHand_54 : decode cX9_doByHand 54 = .ok (.goto 30, 3) := by decide +kernel
theorem dX9_doByHand_57 : decode cX9_doByHand 57 = .ok (.aload_n 0, 1) := by decide +kernel
theorem dX9_doByHand_58 : decode cX9_doByHand 58 = .ok (.iload_n 2, 1) := by decide +kernel
theorem dX9_doByHand_59 : decode cX9_doByHand 59 = .ok (.iload_n 3, 1) := by decide +kernel
theorem dX9_doByHand_60 : decode cX9_doByHand 60 = .ok (.bipush 40, 2) := by decide +kernel
theorem dX9_doByHand_62 : decode cX9_doByHand 62 = .ok (.invokevirtual 73, 3) := by decide +kernel
theorem dX9_doByHand_65 : decode cX9_doByHand 65 = .ok (.goto 19, 3) := by decide +kernel
theorem dX9_doByHand_68 : decode cX9_doByHand 68 = .ok (.aload_n 0, 1) := by decide +kernel
theorem dX9_doByHand_69 : decode cX9_doByHand 69 = .ok (.getfield 17, 3) := by decide +kernel
theorem dX9_doByHand_72 : decode cX9_doByHand 72 = .ok (.getfield 38, 3) := by decide +kernel
theorem dX9_doByHand_75 : decode cX9_doByHand 75 = .ok (.iload_n 2, 1) := by decide +kernel
theorem dX9_doByHand_76 : decode cX9_doByHand 76 = .ok (.iconst 3, 1) := by decide +kernel
theorem dX9_doByHand_77 : decode cX9_doByHand 77 = .ok (.iconst 0, 1) := by decide +kernel
theorem dX9_doByHand_78 : decode cX9_doByHand 78 = .ok (.invokevirtual 65, 3) := by decide +kernel
theorem dX9_doByHand_81 : decode cX9_doByHand 81 = .ok (.goto 3, 3) := by decide +kernel
theorem dX9_doByHand_84 : decode cX9_doByHand 84 = .ok (.return_, 1) := by decide +kernel
theorem dX9_passMinute_0 : decode cX9_passMinute 0 = .ok (.aload_n 0, 1) := by decide +kernel
theorem dX9_passMinute_1 : decode cX9_passMinute 1 = .ok (.invokevirtual 76, 3) := by decide +kernel
theorem dX9_passMinute_4 : decode cX9_passMinute 4 = .ok (.aload_n 0, 1) := by decide +kernel
theorem dX9_passMinute_5 : decode cX9_passMinute 5 = .ok (.invokevirtual 79, 3) := by decide +kernel
theorem dX9_passMinute_8 : decode cX9_passMinute 8 = .ok (.aload_n 0, 1) := by decide +kernel
theorem dX9_passMinute_9 : decode cX9_passMinute 9 = .ok (.invokevirtual 82, 3) := by decide +kernel
theorem dX9_passMinute_12 : decode cX9_passMinute 12 = .ok (.aload_n 0, 1) := by decide +kernel
theorem dX9_passMinute_13 : decode cX9_passMinute 13 = .ok (.invokevirtual 85, 3) := by decide +kernel
theorem dX9_passMinute_16 : decode cX9_passMinute 16 = .ok (.aload_n 0, 1) := by decide +kernel
theorem dX9_passMinute_17 : decode cX9_passMinute 17 = .ok (.invokevirtual 88, 3) := by decide +kernel
theorem dX9_passMinute_20 : decode cX9_passMinute 20 = .ok (.aload_n 0, 1) := by decide +kernel
theorem dX9_passMinute_21 : decode cX9_passMinute 21 = .ok (.getfield 17, 3) := by decide +kernel
theorem dX9_passMinute_24 : decode cX9_passMinute 24 = .ok (.dup, 1) := by decide +kernel
theorem dX9_passMinute_25 : decode cX9_passMinute 25 = .ok (.getfield 91, 3) := by decide +kernel
theorem dX9_passMinute_28 : decode cX9_passMinute 28 = .ok (.iconst 1, 1) := by decide +kernel
theorem dX9_passMinute_29 : decode cX9_passMinute 29 = .ok (.iadd, 1) := by decide +kernel
theorem dX9_passMinute_30 : decode cX9_passMinute 30 = .ok (.putfield 91, 3) := by decide +kernel
theorem dX9_passMinute_33 : decode cX9_passMinute 33 = .ok (.return_, 1) := by decide +kernel
theorem dX9_followSky_0 : decode cX9_followSky 0 = .ok (.aload_n 0, 1) := by decide +kernel
theorem dX9_followSky_1 : decode cX9_followSky 1 = .ok (.getfield 21, 3) := by decide +kernel
theorem dX9_followSky_4 : decode cX9_followSky 4 = .ok (.getfield 95, 3) := by decide +kernel
theorem dX9_followSky_7 : decode cX9_followSky 7 = .ok (.astore_n 1, 1) := by decide +kernel
theorem dX9_followSky_8 : decode cX9_followSky 8 = .ok (.iconst 0, 1) := by decide +kernel
theorem dX9_followSky_9 : decode cX9_followSky 9 = .ok (.istore_n 2, 1) := by decide +kernel
theorem dX9_followSky_10 : decode cX9_followSky 10 = .ok (.iload_n 2, 1) := by decide +kernel
theorem dX9_followSky_11 : decode cX9_followSky 11 = .ok (.aload_n 1, 1) := by decide +kernel
theorem dX9_followSky_12 : decode cX9_followSky 12 = .ok (.getfield 100, 3) := by decide +kernel
theorem dX9_followSky_15 : decode cX9_followSky 15 = .ok (.if_icmp .ge 109, 3) := by decide +kernel
theorem dX9_followSky_18 : decode cX9_followSky 18 = .ok (.aload_n 1, 1) := by decide +kernel
theorem dX9_followSky_19 : decode cX9_followSky 19 = .ok (.iload_n 2, 1) := by decide +kernel
theorem dX9_followSky_20 : decode cX9_followSky 20 = .ok (.iconst 0, 1) := by decide +kernel
theorem dX9_followSky_21 : decode cX9_followSky 21 = .ok (.invokevirtual 50, 3) := by decide +kernel
theorem dX9_followSky_24 : decode cX9_followSky 24 = .ok (.aload_n 0, 1) := by decide +kernel
theorem dX9_followSky_25 : decode cX9_followSky 25 = .ok (.getfield 17, 3) := by decide +kernel
theorem dX9_followSky_28 : decode cX9_followSky 28 = .ok (.getfield 91, 3) := by decide +kernel
theorem dX9_followSky_31 : decode cX9_followSky 31 = .ok (.if_icmp .ne 87, 3) := by decide +kernel
theorem dX9_followSky_34 : decode cX9_followSky 34 = .ok (.aload_n 1, 1) := by decide +kernel
theorem dX9_followSky_35 : decode cX9_followSky 35 = .ok (.iload_n 2, 1) := by decide +kernel
theorem dX9_followSky_36 : decode cX9_followSky 36 = .ok (.iconst 2, 1) := by decide +kernel
theorem dX9_followSky_37 : decode cX9_followSky 37 = .ok (.invokevirtual 50, 3) := by decide +kernel
theorem dX9_followSky_40 : decode cX9_followSky 40 = .ok (.istore_n 3, 1) := by decide +kernel
theorem dX9_followSky_41 : decode cX9_followSky 41 = .ok (.aload_n 1, 1) := by decide +kernel
theorem dX9_followSky_42 : decode cX9_followSky 42 = .ok (.iload_n 2, 1) := by decide +kernel
theorem dX9_followSky_43 : decode cX9_followSky 43 = .ok (.iconst 1, 1) := by decide +kernel
theorem dX9_followSky_44 : decode cX9_followSky 44 = .ok (.invokevirtual 50, 3) := by decide +kernel
theorem dX9_followSky_47 : decode cX9_followSky 47 = .ok (.tableswitch 58 25 27 #[25, 36, 47], 25) := by decide +kernel
theorem dX9_followSky_72 : decode cX9_followSky 72 = .ok (.aload_n 0, 1) := by decide +kernel
theorem dX9_followSky_73 : decode cX9_followSky 73 = .ok (.getfield 17, 3) := by decide +kernel
theorem dX9_followSky_76 : decode cX9_followSky 76 = .ok (.iload_n 3, 1) := by decide +kernel
theorem dX9_followSky_77 : decode cX9_followSky 77 = .ok (.putfield 103, 3) := by decide +kernel
theorem dX9_followSky_80 : decode cX9_followSky 80 = .ok (.goto 38, 3) := by decide +kernel
theorem dX9_followSky_83 : decode cX9_followSky 83 = .ok (.aload_n 0, 1) := by decide +kernel
theorem dX9_followSky_84 : decode cX9_followSky 84 = .ok (.getfield 17, 3) := by decide +kernel
theorem dX9_followSky_87 : decode cX9_followSky 87 = .ok (.iload_n 3, 1) := by decide +kernel
theorem dX9_followSky_88 : decode cX9_followSky 88 = .ok (.putfield 106, 3) := by decide +kernel
theorem dX9_followSky_91 : decode cX9_followSky 91 = .ok (.goto 27, 3) := by decide +kernel
theorem dX9_followSky_94 : decode cX9_followSky 94 = .ok (.aload_n 0, 1) := by decide +kernel
theorem dX9_followSky_95 : decode cX9_followSky 95 = .ok (.getfield 17, 3) := by decide +kernel
theorem dX9_followSky_98 : decode cX9_followSky 98 = .ok (.iload_n 3, 1) := by decide +kernel
theorem dX9_followSky_99 : decode cX9_followSky 99 = .ok (.putfield 109, 3) := by decide +kernel
theorem dX9_followSky_102 : decode cX9_followSky 102 = .ok (.goto 16, 3) := by decide +kernel
theorem dX9_followSky_105 : decode cX9_followSky 105 = .ok (.aload_n 0, 1) := by decide +kernel
theorem dX9_followSky_106 : decode cX9_followSky 106 = .ok (.getfield 17, 3) := by decide +kernel
theorem dX9_followSky_109 : decode cX9_followSky 109 = .ok (.getfield 38, 3) := by decide +kernel
theorem dX9_followSky_112 : decode cX9_followSky 112 = .ok (.iload_n 3, 1) := by decide +kernel
theorem dX9_followSky_113 : decode cX9_followSky 113 = .ok (.iconst 3, 1) := by decide +kernel
theorem dX9_followSky_114 : decode cX9_followSky 114 = .ok (.iconst 0, 1) := by decide +kernel
theorem dX9_followSky_115 : decode cX9_followSky 115 = .ok (.invokevirtual 65, 3) := by decide +kernel
theorem dX9_followSky_118 : decode cX9_followSky 118 = .ok (.iinc 2 1, 3) := by decide +kernel
theorem dX9_followSky_121 : decode cX9_followSky 121 = .ok (.goto (-111), 3) := by decide +kernel
theorem dX9_followSky_124 : decode cX9_followSky 124 = .ok (.return_, 1) := by decide +kernel
theorem dX9_formAndDry_0 : decode cX9_formAndDry 0 = .ok (.iconst 0, 1) := by decide +kernel
theorem dX9_formAndDry_1 : decode cX9_formAndDry 1 = .ok (.istore_n 1, 1) := by decide +kernel
theorem dX9_formAndDry_2 : decode cX9_formAndDry 2 = .ok (.iload_n 1, 1) := by decide +kernel
theorem dX9_formAndDry_3 : decode cX9_formAndDry 3 = .ok (.aload_n 0, 1) := by decide +kernel
theorem dX9_formAndDry_4 : decode cX9_formAndDry 4 = .ok (.getfield 17, 3) := by decide +kernel
theorem dX9_formAndDry_7 : decode cX9_formAndDry 7 = .ok (.getfield 38, 3) := by decide +kernel
theorem dX9_formAndDry_10 : decode cX9_formAndDry 10 = .ok (.getfield 100, 3) := by decide +kernel
theorem dX9_formAndDry_13 : decode cX9_formAndDry 13 = .ok (.if_icmp .ge 84, 3) := by decide +kernel
theorem dX9_formAndDry_16 : decode cX9_formAndDry 16 = .ok (.aload_n 0, 1) := by decide +kernel
theorem dX9_formAndDry_17 : decode cX9_formAndDry 17 = .ok (.getfield 17, 3) := by decide +kernel
theorem dX9_formAndDry_20 : decode cX9_formAndDry 20 = .ok (.iload_n 1, 1) := by decide +kernel
theorem dX9_formAndDry_21 : decode cX9_formAndDry 21 = .ok (.invokevirtual 47, 3) := by decide +kernel
theorem dX9_formAndDry_24 : decode cX9_formAndDry 24 = .ok (.ifCond .ne 67, 3) := by decide +kernel
theorem dX9_formAndDry_27 : decode cX9_formAndDry 27 = .ok (.aload_n 0, 1) := by decide +kernel
theorem dX9_formAndDry_28 : decode cX9_formAndDry 28 = .ok (.getfield 17, 3) := by decide +kernel
theorem dX9_formAndDry_31 : decode cX9_formAndDry 31 = .ok (.iload_n 1, 1) := by decide +kernel
theorem dX9_formAndDry_32 : decode cX9_formAndDry 32 = .ok (.aload_n 0, 1) := by decide +kernel
theorem dX9_formAndDry_33 : decode cX9_formAndDry 33 = .ok (.iconst 0, 1) := by decide +kernel
theorem dX9_formAndDry_34 : decode cX9_formAndDry 34 = .ok (.iload_n 1, 1) := by decide +kernel
theorem dX9_formAndDry_35 : decode cX9_formAndDry 35 = .ok (.invokevirtual 112, 3) := by decide +kernel
theorem dX9_formAndDry_38 : decode cX9_formAndDry 38 = .ok (.invokevirtual 115, 3) := by decide +kernel
theorem dX9_formAndDry_41 : decode cX9_formAndDry 41 = .ok (.pop, 1) := by decide +kernel
theorem dX9_formAndDry_42 : decode cX9_formAndDry 42 = .ok (.aload_n 0, 1) := by decide +kernel
theorem dX9_formAndDry_43 : decode cX9_formAndDry 43 = .ok (.iconst 1, 1) := by decide +kernel
theorem dX9_formAndDry_44 : decode cX9_formAndDry 44 = .ok (.iload_n 1, 1) := by decide +kernel
theorem dX9_formAndDry_45 : decode cX9_formAndDry 45 = .ok (.invokevirtual 112, 3) := by decide +kernel
theorem dX9_formAndDry_48 : decode cX9_formAndDry 48 = .ok (.aload_n 0, 1) := by decide +kernel
theorem dX9_formAndDry_49 : decode cX9_formAndDry 49 = .ok (.getfield 17, 3) := by decide +kernel
theorem dX9_formAndDry_52 : decode cX9_formAndDry 52 = .ok (.getfield 38, 3) := by decide +kernel
theorem dX9_formAndDry_55 : decode cX9_formAndDry 55 = .ok (.iload_n 1, 1) := by decide +kernel
theorem dX9_formAndDry_56 : decode cX9_formAndDry 56 = .ok (.iconst 2, 1) := by decide +kernel
theorem dX9_formAndDry_57 : decode cX9_formAndDry 57 = .ok (.invokevirtual 50, 3) := by decide +kernel
theorem dX9_formAndDry_60 : decode cX9_formAndDry 60 = .ok (.invokestatic 118, 3) := by decide +kernel
theorem dX9_formAndDry_63 : decode cX9_formAndDry 63 = .ok (.istore_n 2, 1) := by decide +kernel
theorem dX9_formAndDry_64 : decode cX9_formAndDry 64 = .ok (.aload_n 0, 1) := by decide +kernel
theorem dX9_formAndDry_65 : decode cX9_formAndDry 65 = .ok (.getfield 17, 3) := by decide +kernel
theorem dX9_formAndDry_68 : decode cX9_formAndDry 68 = .ok (.getfield 38, 3) := by decide +kernel
theorem dX9_formAndDry_71 : decode cX9_formAndDry 71 = .ok (.iload_n 1, 1) := by decide +kernel
theorem dX9_formAndDry_72 : decode cX9_formAndDry 72 = .ok (.iconst 2, 1) := by decide +kernel
theorem dX9_formAndDry_73 : decode cX9_formAndDry 73 = .ok (.iload_n 2, 1) := by decide +kernel
theorem dX9_formAndDry_74 : decode cX9_formAndDry 74 = .ok (.ineg, 1) := by decide +kernel
theorem dX9_formAndDry_75 : decode cX9_formAndDry 75 = .ok (.invokevirtual 123, 3) := by decide +kernel
theorem dX9_formAndDry_78 : decode cX9_formAndDry 78 = .ok (.aload_n 0, 1) := by decide +kernel
theorem dX9_formAndDry_79 : decode cX9_formAndDry 79 = .ok (.getfield 17, 3) := by decide +kernel
theorem dX9_formAndDry_82 : decode cX9_formAndDry 82 = .ok (.dup, 1) := by decide +kernel
theorem dX9_formAndDry_83 : decode cX9_formAndDry 83 = .ok (.getfield 126, 3) := by decide +kernel
theorem dX9_formAndDry_86 : decode cX9_formAndDry 86 = .ok (.iload_n 2, 1) := by decide +kernel
theorem dX9_formAndDry_87 : decode cX9_formAndDry 87 = .ok (.iadd, 1) := by decide +kernel
theorem dX9_formAndDry_88 : decode cX9_formAndDry 88 = .ok (.putfield 126, 3) := by decide +kernel
theorem dX9_formAndDry_91 : decode cX9_formAndDry 91 = .ok (.iinc 1 1, 3) := by decide +kernel
theorem dX9_formAndDry_94 : decode cX9_formAndDry 94 = .ok (.goto (-92), 3) := by decide +kernel
theorem dX9_formAndDry_97 : decode cX9_formAndDry 97 = .ok (.return_, 1) := by decide +kernel
theorem dX9_followPaths_0 : decode cX9_followPaths 0 = .ok (.aload_n 0, 1) := by decide +kernel
theorem dX9_followPaths_1 : decode cX9_followPaths 1 = .ok (.getfield 21, 3) := by decide +kernel
theorem dX9_followPaths_4 : decode cX9_followPaths 4 = .ok (.getfield 129, 3) := by decide +kernel
theorem dX9_followPaths_7 : decode cX9_followPaths 7 = .ok (.astore_n 1, 1) := by decide +kernel
theorem dX9_followPaths_8 : decode cX9_followPaths 8 = .ok (.iconst 0, 1) := by decide +kernel
theorem dX9_followPaths_9 : decode cX9_followPaths 9 = .ok (.istore_n 2, 1) := by decide +kernel
theorem dX9_followPaths_10 : decode cX9_followPaths 10 = .ok (.iload_n 2, 1) := by decide +kernel
theorem dX9_followPaths_11 : decode cX9_followPaths 11 = .ok (.aload_n 1, 1) := by decide +kernel
theorem dX9_followPaths_12 : decode cX9_followPaths 12 = .ok (.getfield 100, 3) := by decide +kernel
theorem dX9_followPaths_15 : decode cX9_followPaths 15 = .ok (.if_icmp .ge 115, 3) := by decide +kernel
theorem dX9_followPaths_18 : decode cX9_followPaths 18 = .ok (.aload_n 1, 1) := by decide +kernel
theorem dX9_followPaths_19 : decode cX9_followPaths 19 = .ok (.iload_n 2, 1) := by decide +kernel
theorem dX9_followPaths_20 : decode cX9_followPaths 20 = .ok (.iconst 0, 1) := by decide +kernel
theorem dX9_followPaths_21 : decode cX9_followPaths 21 = .ok (.invokevirtual 50, 3) := by decide +kernel
theorem dX9_followPaths_24 : decode cX9_followPaths 24 = .ok (.aload_n 0, 1) := by decide +kernel
theorem dX9_followPaths_25 : decode cX9_followPaths 25 = .ok (.getfield 17, 3) := by decide +kernel
theorem dX9_followPaths_28 : decode cX9_followPaths 28 = .ok (.getfield 91, 3) := by decide +kernel
theorem dX9_followPaths_31 : decode cX9_followPaths 31 = .ok (.if_icmp .ne 93, 3) := by decide +kernel
theorem dX9_followPaths_34 : decode cX9_followPaths 34 = .ok (.aload_n 1, 1) := by decide +kernel
theorem dX9_followPaths_35 : decode cX9_followPaths 35 = .ok (.iload_n 2, 1) := by decide +kernel
theorem dX9_followPaths_36 : decode cX9_followPaths 36 = .ok (.iconst 1, 1) := by decide +kernel
theorem dX9_followPaths_37 : decode cX9_followPaths 37 = .ok (.invokevirtual 50, 3) := by decide +kernel
theorem dX9_followPaths_40 : decode cX9_followPaths 40 = .ok (.istore_n 3, 1) := by decide +kernel
theorem dX9_followPaths_41 : decode cX9_followPaths 41 = .ok (.aload_n 1, 1) := by decide +kernel
theorem dX9_followPaths_42 : decode cX9_followPaths 42 = .ok (.iload_n 2, 1) := by decide +kernel
theorem dX9_followPaths_43 : decode cX9_followPaths 43 = .ok (.iconst 3, 1) := by decide +kernel
theorem dX9_followPaths_44 : decode cX9_followPaths 44 = .ok (.invokevirtual 50, 3) := by decide +kernel
theorem dX9_followPaths_47 : decode cX9_followPaths 47 = .ok (.istore 4, 2) := by decide +kernel
theorem dX9_followPaths_49 : decode cX9_followPaths 49 = .ok (.aload_n 1, 1) := by decide +kernel
theorem dX9_followPaths_50 : decode cX9_followPaths 50 = .ok (.iload_n 2, 1) := by decide +kernel
theorem dX9_followPaths_51 : decode cX9_followPaths 51 = .ok (.iconst 4, 1) := by decide +kernel
theorem dX9_followPaths_52 : decode cX9_followPaths 52 = .ok (.invokevirtual 50, 3) := by decide +kernel
theorem dX9_followPaths_55 : decode cX9_followPaths 55 = .ok (.istore 5, 2) := by decide +kernel
theorem dX9_followPaths_57 : decode cX9_followPaths 57 = .ok (.aload_n 1, 1) := by decide +kernel
theorem dX9_followPaths_58 : decode cX9_followPaths 58 = .ok (.iload_n 2, 1) := by decide +kernel
theorem dX9_followPaths_59 : decode cX9_followPaths 59 = .ok (.iconst 2, 1) := by decide +kernel
theorem dX9_followPaths_60 : decode cX9_followPaths 60 = .ok (.invokevirtual 50, 3) := by decide +kernel
theorem dX9_followPaths_63 : decode cX9_followPaths 63 = .ok (.lookupswitch 52 #[(31, 25), (32, 42)], 25) := by decide +kernel
theorem dX9_followPaths_88 : decode cX9_followPaths 88 = .ok (.aload_n 0, 1) := by decide +kernel
theorem dX9_followPaths_89 : decode cX9_followPaths 89 = .ok (.getfield 17, 3) := by decide +kernel
theorem dX9_followPaths_92 : decode cX9_followPaths 92 = .ok (.getfield 33, 3) := by decide +kernel
theorem dX9_followPaths_95 : decode cX9_followPaths 95 = .ok (.iload_n 3, 1) := by decide +kernel
theorem dX9_followPaths_96 : decode cX9_followPaths 96 = .ok (.iconst 1, 1) := by decide +kernel
theorem dX9_followPaths_97 : decode cX9_followPaths 97 = .ok (.iload 4, 2) := by decide +kernel
theorem dX9_followPaths_99 : decode cX9_followPaths 99 = .ok (.invokevirtual 65, 3) := by decide +kernel
theorem dX9_followPaths_102 : decode cX9_followPaths 102 = .ok (.goto 22, 3) := by decide +kernel
theorem dX9_followPaths_105 : decode cX9_followPaths 105 = .ok (.aload_n 0, 1) := by decide +kernel
theorem dX9_followPaths_106 : decode cX9_followPaths 106 = .ok (.iload_n 3, 1) := by decide +kernel
theorem dX9_followPaths_107 : decode cX9_followPaths 107 = .ok (.iload 5, 2) := by decide +kernel
theorem dX9_followPaths_109 : decode cX9_followPaths 109 = .ok (.invokevirtual 69, 3) := by decide +kernel
theorem dX9_followPaths_112 : decode cX9_followPaths 112 = .ok (.goto 12, 3) := by decide +kernel
theorem dX9_followPaths_115 : decode cX9_followPaths 115 = .ok (.aload_n 0, 1) := by decide +kernel
theorem dX9_followPaths_116 : decode cX9_followPaths 116 = .ok (.iload_n 3, 1) := by decide +kernel
theorem dX9_followPaths_117 : decode cX9_followPaths 117 = .ok (.iload 4, 2) := by decide +kernel
theorem dX9_followPaths_119 : decode cX9_followPaths 119 = .ok (.iload 5, 2) := by decide +kernel
theorem dX9_followPaths_121 : decode cX9_followPaths 121 = .ok (.invokevirtual 73, 3) := by decide +kernel
theorem dX9_followPaths_124 : decode cX9_followPaths 124 = .ok (.iinc 2 1, 3) := by decide +kernel
theorem dX9_followPaths_127 : decode cX9_followPaths 127 = .ok (.goto (-117), 3) := by decide +kernel
theorem dX9_followPaths_130 : decode cX9_followPaths 130 = .ok (.return_, 1) := by decide +kernel
theorem dX9_takeBeads_0 : decode cX9_takeBeads 0 = .ok (.aload_n 0, 1) := by decide +kernel
theorem dX9_takeBeads_1 : decode cX9_takeBeads 1 = .ok (.getfield 17, 3) := by decide +kernel
theorem dX9_takeBeads_4 : decode cX9_takeBeads 4 = .ok (.aload_n 0, 1) := by decide +kernel
theorem dX9_takeBeads_5 : decode cX9_takeBeads 5 = .ok (.getfield 17, 3) := by decide +kernel
theorem dX9_takeBeads_8 : decode cX9_takeBeads 8 = .ok (.getfield 33, 3) := by decide +kernel
theorem dX9_takeBeads_11 : decode cX9_takeBeads 11 = .ok (.iload_n 1, 1) := by decide +kernel
theorem dX9_takeBeads_12 : decode cX9_takeBeads 12 = .ok (.iconst 0, 1) := by decide +kernel
theorem dX9_takeBeads_13 : decode cX9_takeBeads 13 = .ok (.invokevirtual 50, 3) := by decide +kernel
theorem dX9_takeBeads_16 : decode cX9_takeBeads 16 = .ok (.invokevirtual 58, 3) := by decide +kernel
theorem dX9_takeBeads_19 : decode cX9_takeBeads 19 = .ok (.istore_n 3, 1) := by decide +kernel
theorem dX9_takeBeads_20 : decode cX9_takeBeads 20 = .ok (.bipush 40, 2) := by decide +kernel
theorem dX9_takeBeads_22 : decode cX9_takeBeads 22 = .ok (.aload_n 0, 1) := by decide +kernel
theorem dX9_takeBeads_23 : decode cX9_takeBeads 23 = .ok (.getfield 17, 3) := by decide +kernel
theorem dX9_takeBeads_26 : decode cX9_takeBeads 26 = .ok (.getfield 33, 3) := by decide +kernel
theorem dX9_takeBeads_29 : decode cX9_takeBeads 29 = .ok (.iload_n 1, 1) := by decide +kernel
theorem dX9_takeBeads_30 : decode cX9_takeBeads 30 = .ok (.iconst 2, 1) := by decide +kernel
theorem dX9_takeBeads_31 : decode cX9_takeBeads 31 = .ok (.invokevirtual 50, 3) := by decide +kernel
theorem dX9_takeBeads_34 : decode cX9_takeBeads 34 = .ok (.isub, 1) := by decide +kernel
theorem dX9_takeBeads_35 : decode cX9_takeBeads 35 = .ok (.istore 4, 2) := by decide +kernel
theorem dX9_takeBeads_37 : decode cX9_takeBeads 37 = .ok (.iload_n 3, 1) := by decide +kernel
theorem dX9_takeBeads_38 : decode cX9_takeBeads 38 = .ok (.iconst (-1), 1) := by decide +kernel
theorem dX9_takeBeads_39 : decode cX9_takeBeads 39 = .ok (.if_icmp .eq 8, 3) := by decide +kernel
theorem dX9_takeBeads_42 : decode cX9_takeBeads 42 = .ok (.iload 4, 2) := by decide +kernel
theorem dX9_takeBeads_44 : decode cX9_takeBeads 44 = .ok (.ifCond .gt 4, 3) := by decide +kernel
theorem dX9_takeBeads_47 : decode cX9_takeBeads 47 = .ok (.return_, 1) := by decide +kernel
theorem dX9_takeBeads_48 : decode cX9_takeBeads 48 = .ok (.iload_n 2, 1) := by decide +kernel
theorem dX9_takeBeads_49 : decode cX9_takeBeads 49 = .ok (.iload 4, 2) := by decide +kernel
theorem dX9_takeBeads_51 : decode cX9_takeBeads 51 = .ok (.aload_n 0, 1) := by decide +kernel
theorem dX9_takeBeads_52 : decode cX9_takeBeads 52 = .ok (.getfield 17, 3) := by decide +kernel
theorem dX9_takeBeads_55 : decode cX9_takeBeads 55 = .ok (.getfield 38, 3) := by decide +kernel
theorem dX9_takeBeads_58 : decode cX9_takeBeads 58 = .ok (.iload_n 3, 1) := by decide +kernel
theorem dX9_takeBeads_59 : decode cX9_takeBeads 59 = .ok (.iconst 2, 1) := by decide +kernel
theorem dX9_takeBeads_60 : decode cX9_takeBeads 60 = .ok (.invokevirtual 50, 3) := by decide +kernel
theorem dX9_takeBeads_63 : decode cX9_takeBeads 63 = .ok (.invokestatic 118, 3) := by decide +kernel
theorem dX9_takeBeads_66 : decode cX9_takeBeads 66 = .ok (.invokestatic 118, 3) := by decide +kernel
theorem dX9_takeBeads_69 : decode cX9_takeBeads 69 = .ok (.istore 5, 2) := by decide +kernel
theorem dX9_takeBeads_71 : decode cX9_takeBeads 71 = .ok (.aload_n 0, 1) := by decide +kernel
theorem dX9_takeBeads_72 : decode cX9_takeBeads 72 = .ok (.getfield 17, 3) := by decide +kernel
theorem dX9_takeBeads_75 : decode cX9_takeBeads 75 = .ok (.getfield 38, 3) := by decide +kernel
theorem dX9_takeBeads_78 : decode cX9_takeBeads 78 = .ok (.iload_n 3, 1) := by decide +kernel
theorem dX9_takeBeads_79 : decode cX9_takeBeads 79 = .ok (.iconst 2, 1) := by decide +kernel
theorem dX9_takeBeads_80 : decode cX9_takeBeads 80 = .ok (.iload 5, 2) := by decide +kernel
theorem dX9_takeBeads_82 : decode cX9_takeBeads 82 = .ok (.ineg, 1) := by decide +kernel
theorem dX9_takeBeads_83 : decode cX9_takeBeads 83 = .ok (.invokevirtual 123, 3) := by decide +kernel
theorem dX9_takeBeads_86 : decode cX9_takeBeads 86 = .ok (.aload_n 0, 1) := by decide +kernel
theorem dX9_takeBeads_87 : decode cX9_takeBeads 87 = .ok (.getfield 17, 3) := by decide +kernel
theorem dX9_takeBeads_90 : decode cX9_takeBeads 90 = .ok (.getfield 33, 3) := by decide +kernel
theorem dX9_takeBeads_93 : decode cX9_takeBeads 93 = .ok (.iload_n 1, 1) := by decide +kernel
theorem dX9_takeBeads_94 : decode cX9_takeBeads 94 = .ok (.iconst 2, 1) := by decide +kernel
theorem dX9_takeBeads_95 : decode cX9_takeBeads 95 = .ok (.iload 5, 2) := by decide +kernel
theorem dX9_takeBeads_97 : decode cX9_takeBeads 97 = .ok (.invokevirtual 123, 3) := by decide +kernel
theorem dX9_takeBeads_100 : decode cX9_takeBeads 100 = .ok (.aload_n 0, 1) := by decide +kernel
theorem dX9_takeBeads_101 : decode cX9_takeBeads 101 = .ok (.getfield 25, 3) := by decide +kernel
theorem dX9_takeBeads_104 : decode cX9_takeBeads 104 = .ok (.aload_n 0, 1) := by decide +kernel
theorem dX9_takeBeads_105 : decode cX9_takeBeads 105 = .ok (.getfield 17, 3) := by decide +kernel
theorem dX9_takeBeads_108 : decode cX9_takeBeads 108 = .ok (.getfield 91, 3) := by decide +kernel
theorem dX9_takeBeads_111 : decode cX9_takeBeads 111 = .ok (.iconst 0, 1) := by decide +kernel
theorem dX9_takeBeads_112 : decode cX9_takeBeads 112 = .ok (.iload_n 1, 1) := by decide +kernel
theorem dX9_takeBeads_113 : decode cX9_takeBeads 113 = .ok (.iload 5, 2) := by decide +kernel
theorem dX9_takeBeads_115 : decode cX9_takeBeads 115 = .ok (.iconst 0, 1) := by decide +kernel
theorem dX9_takeBeads_116 : decode cX9_takeBeads 116 = .ok (.invokevirtual 132, 3) := by decide +kernel
theorem dX9_takeBeads_119 : decode cX9_takeBeads 119 = .ok (.pop, 1) := by decide +kernel
theorem dX9_takeBeads_120 : decode cX9_takeBeads 120 = .ok (.aload_n 0, 1) := by decide +kernel
theorem dX9_takeBeads_121 : decode cX9_takeBeads 121 = .ok (.iconst 2, 1) := by decide +kernel
theorem dX9_takeBeads_122 : decode cX9_takeBeads 122 = .ok (.iload_n 3, 1) := by decide +kernel
theorem dX9_takeBeads_123 : decode cX9_takeBeads 123 = .ok (.invokevirtual 112, 3) := by decide +kernel
theorem dX9_takeBeads_126 : decode cX9_takeBeads 126 = .ok (.istore 6, 2) := by decide +kernel
theorem dX9_takeBeads_128 : decode cX9_takeBeads 128 = .ok (.aload_n 0, 1) := by decide +kernel
theorem dX9_takeBeads_129 : decode cX9_takeBeads 129 = .ok (.getfield 29, 3) := by decide +kernel
theorem dX9_takeBeads_132 : decode cX9_takeBeads 132 = .ok (.ifCond .eq 14, 3) := by decide +kernel
theorem dX9_takeBeads_135 : decode cX9_takeBeads 135 = .ok (.iload 6, 2) := by decide +kernel
theorem dX9_takeBeads_137 : decode cX9_takeBeads 137 = .ok (.sipush 500, 3) := by decide +kernel
theorem dX9_takeBeads_140 : decode cX9_takeBeads 140 = .ok (.if_icmp .lt 31, 3) := by decide +kernel
theorem dX9_takeBeads_143 : decode cX9_takeBeads 143 = .ok (.goto 23, 3) := by decide +kernel
theorem dX9_takeBeads_146 : decode cX9_takeBeads 146 = .ok (.iload 6, 2) := by decide +kernel
theorem dX9_takeBeads_148 : decode cX9_takeBeads 148 = .ok (.ifCond .le 23, 3) := by decide +kernel
theorem dX9_takeBeads_151 : decode cX9_takeBeads 151 = .ok (.aload_n 0, 1) := by decide +kernel
theorem dX9_takeBeads_152 : decode cX9_takeBeads 152 = .ok (.getfield 17, 3) := by decide +kernel
theorem dX9_takeBeads_155 : decode cX9_takeBeads 155 = .ok (.sipush 1000, 3) := by decide +kernel
theorem dX9_takeBeads_158 : decode cX9_takeBeads 158 = .ok (.invokevirtual 136, 3) := by decide +kernel
theorem dX9_takeBeads_161 : decode cX9_takeBeads 161 = .ok (.iload 6, 2) := by decide +kernel
theorem dX9_takeBeads_163 : decode cX9_takeBeads 163 = .ok (.if_icmp .ge 8, 3) := by decide +kernel
theorem dX9_takeBeads_166 : decode cX9_takeBeads 166 = .ok (.aload_n 0, 1) := by decide +kernel
theorem dX9_takeBeads_167 : decode cX9_takeBeads 167 = .ok (.iload_n 3, 1) := by decide +kernel
theorem dX9_takeBeads_168 : decode cX9_takeBeads 168 = .ok (.invokevirtual 139, 3) := by decide +kernel
theorem dX9_takeBeads_171 : decode cX9_takeBeads 171 = .ok (.return_, 1) := by decide +kernel
theorem dX9_tear_0 : decode cX9_tear 0 = .ok (.aload_n 0, 1) := by decide +kernel
theorem dX9_tear_1 : decode cX9_tear 1 = .ok (.getfield 17, 3) := by decide +kernel
theorem dX9_tear_4 : decode cX9_tear 4 = .ok (.getfield 38, 3) := by decide +kernel
theorem dX9_tear_7 : decode cX9_tear 7 = .ok (.iload_n 1, 1) := by decide +kernel
theorem dX9_tear_8 : decode cX9_tear 8 = .ok (.iconst 2, 1) := by decide +kernel
theorem dX9_tear_9 : decode cX9_tear 9 = .ok (.invokevirtual 50, 3) := by decide +kernel
theorem dX9_tear_12 : decode cX9_tear 12 = .ok (.istore_n 2, 1) := by decide +kernel
theorem dX9_tear_13 : decode cX9_tear 13 = .ok (.aload_n 0, 1) := by decide +kernel
theorem dX9_tear_14 : decode cX9_tear 14 = .ok (.getfield 25, 3) := by decide +kernel
theorem dX9_tear_17 : decode cX9_tear 17 = .ok (.aload_n 0, 1) := by decide +kernel
theorem dX9_tear_18 : decode cX9_tear 18 = .ok (.getfield 17, 3) := by decide +kernel
theorem dX9_tear_21 : decode cX9_tear 21 = .ok (.getfield 91, 3) := by decide +kernel
theorem dX9_tear_24 : decode cX9_tear 24 = .ok (.iconst 1, 1) := by decide +kernel
theorem dX9_tear_25 : decode cX9_tear 25 = .ok (.iload_n 1, 1) := by decide +kernel
theorem dX9_tear_26 : decode cX9_tear 26 = .ok (.iload_n 2, 1) := by decide +kernel
theorem dX9_tear_27 : decode cX9_tear 27 = .ok (.iconst 0, 1) := by decide +kernel
theorem dX9_tear_28 : decode cX9_tear 28 = .ok (.invokevirtual 132, 3) := by decide +kernel
theorem dX9_tear_31 : decode cX9_tear 31 = .ok (.pop, 1) := by decide +kernel
theorem dX9_tear_32 : decode cX9_tear 32 = .ok (.aload_n 0, 1) := by decide +kernel
theorem dX9_tear_33 : decode cX9_tear 33 = .ok (.getfield 17, 3) := by decide +kernel
theorem dX9_tear_36 : decode cX9_tear 36 = .ok (.getfield 38, 3) := by decide +kernel
theorem dX9_tear_39 : decode cX9_tear 39 = .ok (.iload_n 1, 1) := by decide +kernel
theorem dX9_tear_40 : decode cX9_tear 40 = .ok (.iconst 3, 1) := by decide +kernel
theorem dX9_tear_41 : decode cX9_tear 41 = .ok (.iconst 1, 1) := by decide +kernel
theorem dX9_tear_42 : decode cX9_tear 42 = .ok (.invokevirtual 65, 3) := by decide +kernel
theorem dX9_tear_45 : decode cX9_tear 45 = .ok (.aload_n 0, 1) := by decide +kernel
theorem dX9_tear_46 : decode cX9_tear 46 = .ok (.getfield 17, 3) := by decide +kernel
theorem dX9_tear_49 : decode cX9_tear 49 = .ok (.getfield 38, 3) := by decide +kernel
theorem dX9_tear_52 : decode cX9_tear 52 = .ok (.iload_n 1, 1) := by decide +kernel
theorem dX9_tear_53 : decode cX9_tear 53 = .ok (.iconst 2, 1) := by decide +kernel
theorem dX9_tear_54 : decode cX9_tear 54 = .ok (.iconst 0, 1) := by decide +kernel
theorem dX9_tear_55 : decode cX9_tear 55 = .ok (.invokevirtual 65, 3) := by decide +kernel
theorem dX9_tear_58 : decode cX9_tear 58 = .ok (.aload_n 0, 1) := by decide +kernel
theorem dX9_tear_59 : decode cX9_tear 59 = .ok (.getfield 21, 3) := by decide +kernel
theorem dX9_tear_62 : decode cX9_tear 62 = .ok (.iload_n 1, 1) := by decide +kernel
theorem dX9_tear_63 : decode cX9_tear 63 = .ok (.invokevirtual 143, 3) := by decide +kernel
theorem dX9_tear_66 : decode cX9_tear 66 = .ok (.aload_n 0, 1) := by decide +kernel
theorem dX9_tear_67 : decode cX9_tear 67 = .ok (.getfield 17, 3) := by decide +kernel
theorem dX9_tear_70 : decode cX9_tear 70 = .ok (.invokevirtual 146, 3) := by decide +kernel
theorem dX9_tear_73 : decode cX9_tear 73 = .ok (.iconst (-1), 1) := by decide +kernel
theorem dX9_tear_74 : decode cX9_tear 74 = .ok (.ixor, 1) := by decide +kernel
theorem dX9_tear_75 : decode cX9_tear 75 = .ok (.iand, 1) := by decide +kernel
theorem dX9_tear_76 : decode cX9_tear 76 = .ok (.istore_n 3, 1) := by decide +kernel
theorem dX9_tear_77 : decode cX9_tear 77 = .ok (.iload_n 3, 1) := by decide +kernel
theorem dX9_tear_78 : decode cX9_tear 78 = .ok (.invokestatic 150, 3) := by decide +kernel
theorem dX9_tear_81 : decode cX9_tear 81 = .ok (.istore 4, 2) := by decide +kernel
theorem dX9_tear_83 : decode cX9_tear 83 = .ok (.iload 4, 2) := by decide +kernel
theorem dX9_tear_85 : decode cX9_tear 85 = .ok (.ifCond .le 12, 3) := by decide +kernel
theorem dX9_tear_88 : decode cX9_tear 88 = .ok (.iload_n 2, 1) := by decide +kernel
theorem dX9_tear_89 : decode cX9_tear 89 = .ok (.iconst 2, 1) := by decide +kernel
theorem dX9_tear_90 : decode cX9_tear 90 = .ok (.idiv, 1) := by decide +kernel
theorem dX9_tear_91 : decode cX9_tear 91 = .ok (.iload 4, 2) := by decide +kernel
theorem dX9_tear_93 : decode cX9_tear 93 = .ok (.idiv, 1) := by decide +kernel
theorem dX9_tear_94 : decode cX9_tear 94 = .ok (.goto 4, 3) := by decide +kernel
theorem dX9_tear_97 : decode cX9_tear 97 = .ok (.iconst 0, 1) := by decide +kernel
theorem dX9_tear_98 : decode cX9_tear 98 = .ok (.istore 5, 2) := by decide +kernel
theorem dX9_tear_100 : decode cX9_tear 100 = .ok (.iconst 0, 1) := by decide +kernel
theorem dX9_tear_101 : decode cX9_tear 101 = .ok (.istore 6, 2) := by decide +kernel
theorem dX9_tear_103 : decode cX9_tear 103 = .ok (.iconst 0, 1) := by decide +kernel
theorem dX9_tear_104 : decode cX9_tear 104 = .ok (.istore 7, 2) := by decide +kernel
theorem dX9_tear_106 : decode cX9_tear 106 = .ok (.iload 7, 2) := by decide +kernel
theorem dX9_tear_108 : decode cX9_tear 108 = .ok (.aload_n 0, 1) := by decide +kernel
theorem dX9_tear_109 : decode cX9_tear 109 = .ok (.getfield 17, 3) := by decide +kernel
theorem dX9_tear_112 : decode cX9_tear 112 = .ok (.getfield 38, 3) := by decide +kernel
theorem dX9_tear_115 : decode cX9_tear 115 = .ok (.getfield 100, 3) := by decide +kernel
theorem dX9_tear_118 : decode cX9_tear 118 = .ok (.if_icmp .ge 34, 3) := by decide +kernel
theorem dX9_tear_121 : decode cX9_tear 121 = .ok (.iload_n 3, 1) := by decide +kernel
theorem dX9_tear_122 : decode cX9_tear 122 = .ok (.iload 7, 2) := by decide +kernel
theorem dX9_tear_124 : decode cX9_tear 124 = .ok (.ishr, 1) := by decide +kernel
theorem dX9_tear_125 : decode cX9_tear 125 = .ok (.iconst 1, 1) := by decide +kernel
theorem dX9_tear_126 : decode cX9_tear 126 = .ok (.iand, 1) := by decide +kernel
theorem dX9_tear_127 : decode cX9_tear 127 = .ok (.ifCond .eq 19, 3) := by decide +kernel
theorem dX9_tear_130 : decode cX9_tear 130 = .ok (.iload 6, 2) := by decide +kernel
theorem dX9_tear_132 : decode cX9_tear 132 = .ok (.aload_n 0, 1) := by decide +kernel
theorem dX9_tear_133 : decode cX9_tear 133 = .ok (.getfield 17, 3) := by decide +kernel
theorem dX9_tear_136 : decode cX9_tear 136 = .ok (.iload 7, 2) := by decide +kernel
theorem dX9_tear_138 : decode cX9_tear 138 = .ok (.iload 5, 2) := by decide +kernel
theorem dX9_tear_140 : decode cX9_tear 140 = .ok (.invokevirtual 115, 3) := by decide +kernel
theorem dX9_tear_143 : decode cX9_tear 143 = .ok (.iadd, 1) := by decide +kernel
theorem dX9_tear_144 : decode cX9_tear 144 = .ok (.istore 6, 2) := by decide +kernel
theorem dX9_tear_146 : decode cX9_tear 146 = .ok (.iinc 7 1, 3) := by decide +kernel
theorem dX9_tear_149 : decode cX9_tear 149 = .ok (.goto (-43), 3) := by decide +kernel
theorem dX9_tear_152 : decode cX9_tear 152 = .ok (.aload_n 0, 1) := by decide +kernel
theorem dX9_tear_153 : decode cX9_tear 153 = .ok (.getfield 17, 3) := by decide +kernel
theorem dX9_tear_156 : decode cX9_tear 156 = .ok (.dup, 1) := by decide +kernel
theorem dX9_tear_157 : decode cX9_tear 157 = .ok (.getfield 126, 3) := by decide +kernel
theorem dX9_tear_160 : decode cX9_tear 160 = .ok (.iload_n 2, 1) := by decide +kernel
theorem dX9_tear_161 : decode cX9_tear 161 = .ok (.iload 6, 2) := by decide +kernel
theorem dX9_tear_163 : decode cX9_tear 163 = .ok (.isub, 1) := by decide +kernel
theorem dX9_tear_164 : decode cX9_tear 164 = .ok (.iadd, 1) := by decide +kernel
theorem dX9_tear_165 : decode cX9_tear 165 = .ok (.putfield 126, 3) := by decide +kernel
theorem dX9_tear_168 : decode cX9_tear 168 = .ok (.return_, 1) := by decide +kernel
theorem dX9_sellBeads_0 : decode cX9_sellBeads 0 = .ok (.aload_n 0, 1) := by decide +kernel
theorem dX9_sellBeads_1 : decode cX9_sellBeads 1 = .ok (.getfield 17, 3) := by decide +kernel
theorem dX9_sellBeads_4 : decode cX9_sellBeads 4 = .ok (.getfield 62, 3) := by decide +kernel
theorem dX9_sellBeads_7 : decode cX9_sellBeads 7 = .ok (.astore 4, 2) := by decide +kernel
theorem dX9_sellBeads_9 : decode cX9_sellBeads 9 = .ok (.aload 4, 2) := by decide +kernel
theorem dX9_sellBeads_11 : decode cX9_sellBeads 11 = .ok (.iload_n 2, 1) := by decide +kernel
theorem dX9_sellBeads_12 : decode cX9_sellBeads 12 = .ok (.iconst 0, 1) := by decide +kernel
theorem dX9_sellBeads_13 : decode cX9_sellBeads 13 = .ok (.invokevirtual 50, 3) := by decide +kernel
theorem dX9_sellBeads_16 : decode cX9_sellBeads 16 = .ok (.aload_n 0, 1) := by decide +kernel
theorem dX9_sellBeads_17 : decode cX9_sellBeads 17 = .ok (.getfield 17, 3) := by decide +kernel
theorem dX9_sellBeads_20 : decode cX9_sellBeads 20 = .ok (.getfield 33, 3) := by decide +kernel
theorem dX9_sellBeads_23 : decode cX9_sellBeads 23 = .ok (.iload_n 1, 1) := by decide +kernel
theorem dX9_sellBeads_24 : decode cX9_sellBeads 24 = .ok (.iconst 0, 1) := by decide +kernel
theorem dX9_sellBeads_25 : decode cX9_sellBeads 25 = .ok (.invokevirtual 50, 3) := by decide +kernel
theorem dX9_sellBeads_28 : decode cX9_sellBeads 28 = .ok (.if_icmp .eq 4, 3) := by decide +kernel
theorem dX9_sellBeads_31 : decode cX9_sellBeads 31 = .ok (.return_, 1) := by decide +kernel
theorem dX9_sellBeads_32 : decode cX9_sellBeads 32 = .ok (.iload_n 3, 1) := by decide +kernel
theorem dX9_sellBeads_33 : decode cX9_sellBeads 33 = .ok (.aload_n 0, 1) := by decide +kernel
theorem dX9_sellBeads_34 : decode cX9_sellBeads 34 = .ok (.getfield 17, 3) := by decide +kernel
theorem dX9_sellBeads_37 : decode cX9_sellBeads 37 = .ok (.getfield 33, 3) := by decide +kernel
theorem dX9_sellBeads_40 : decode cX9_sellBeads 40 = .ok (.iload_n 1, 1) := by decide +kernel
theorem dX9_sellBeads_41 : decode cX9_sellBeads 41 = .ok (.iconst 2, 1) := by decide +kernel
theorem dX9_sellBeads_42 : decode cX9_sellBeads 42 = .ok (.invokevirtual 50, 3) := by decide +kernel
theorem dX9_sellBeads_45 : decode cX9_sellBeads 45 = .ok (.aload 4, 2) := by decide +kernel
theorem dX9_sellBeads_47 : decode cX9_sellBeads 47 = .ok (.iload_n 2, 1) := by decide +kernel
theorem dX9_sellBeads_48 : decode cX9_sellBeads 48 = .ok (.iconst 1, 1) := by decide +kernel
theorem dX9_sellBeads_49 : decode cX9_sellBeads 49 = .ok (.invokevirtual 50, 3) := by decide +kernel
theorem dX9_sellBeads_52 : decode cX9_sellBeads 52 = .ok (.invokestatic 118, 3) := by decide +kernel
theorem dX9_sellBeads_55 : decode cX9_sellBeads 55 = .ok (.invokestatic 118, 3) := by decide +kernel
theorem dX9_sellBeads_58 : decode cX9_sellBeads 58 = .ok (.istore 5, 2) := by decide +kernel
theorem dX9_sellBeads_60 : decode cX9_sellBeads 60 = .ok (.iload 5, 2) := by decide +kernel
theorem dX9_sellBeads_62 : decode cX9_sellBeads 62 = .ok (.ifCond .gt 4, 3) := by decide +kernel
theorem dX9_sellBeads_65 : decode cX9_sellBeads 65 = .ok (.return_, 1) := by decide +kernel
theorem dX9_sellBeads_66 : decode cX9_sellBeads 66 = .ok (.aload_n 0, 1) := by decide +kernel
theorem dX9_sellBeads_67 : decode cX9_sellBeads 67 = .ok (.getfield 17, 3) := by decide +kernel
theorem dX9_sellBeads_70 : decode cX9_sellBeads 70 = .ok (.getfield 33, 3) := by decide +kernel
theorem dX9_sellBeads_73 : decode cX9_sellBeads 73 = .ok (.iload_n 1, 1) := by decide +kernel
theorem dX9_sellBeads_74 : decode cX9_sellBeads 74 = .ok (.iconst 2, 1) := by decide +kernel
theorem dX9_sellBeads_75 : decode cX9_sellBeads 75 = .ok (.iload 5, 2) := by decide +kernel
theorem dX9_sellBeads_77 : decode cX9_sellBeads 77 = .ok (.ineg, 1) := by decide +kernel
theorem dX9_sellBeads_78 : decode cX9_sellBeads 78 = .ok (.invokevirtual 123, 3) := by decide +kernel
theorem dX9_sellBeads_81 : decode cX9_sellBeads 81 = .ok (.aload_n 0, 1) := by decide +kernel
theorem dX9_sellBeads_82 : decode cX9_sellBeads 82 = .ok (.getfield 17, 3) := by decide +kernel
theorem dX9_sellBeads_85 : decode cX9_sellBeads 85 = .ok (.getfield 33, 3) := by decide +kernel
theorem dX9_sellBeads_88 : decode cX9_sellBeads 88 = .ok (.iload_n 1, 1) := by decide +kernel
theorem dX9_sellBeads_89 : decode cX9_sellBeads 89 = .ok (.iconst 3, 1) := by decide +kernel
theorem dX9_sellBeads_90 : decode cX9_sellBeads 90 = .ok (.iload 5, 2) := by decide +kernel
theorem dX9_sellBeads_92 : decode cX9_sellBeads 92 = .ok (.aload 4, 2) := by decide +kernel
theorem dX9_sellBeads_94 : decode cX9_sellBeads 94 = .ok (.iload_n 2, 1) := by decide +kernel
theorem dX9_sellBeads_95 : decode cX9_sellBeads 95 = .ok (.iconst 2, 1) := by decide +kernel
theorem dX9_sellBeads_96 : decode cX9_sellBeads 96 = .ok (.invokevirtual 50, 3) := by decide +kernel
theorem dX9_sellBeads_99 : decode cX9_sellBeads 99 = .ok (.imul, 1) := by decide +kernel
theorem dX9_sellBeads_100 : decode cX9_sellBeads 100 = .ok (.invokevirtual 123, 3) := by decide +kernel
theorem dX9_sellBeads_103 : decode cX9_sellBeads 103 = .ok (.aload 4, 2) := by decide +kernel
theorem dX9_sellBeads_105 : decode cX9_sellBeads 105 = .ok (.iload_n 2, 1) := by decide +kernel
theorem dX9_sellBeads_106 : decode cX9_sellBeads 106 = .ok (.iconst 1, 1) := by decide +kernel
theorem dX9_sellBeads_107 : decode cX9_sellBeads 107 = .ok (.iload 5, 2) := by decide +kernel
theorem dX9_sellBeads_109 : decode cX9_sellBeads 109 = .ok (.ineg, 1) := by decide +kernel
theorem dX9_sellBeads_110 : decode cX9_sellBeads 110 = .ok (.invokevirtual 123, 3) := by decide +kernel
theorem dX9_sellBeads_113 : decode cX9_sellBeads 113 = .ok (.aload 4, 2) := by decide +kernel
theorem dX9_sellBeads_115 : decode cX9_sellBeads 115 = .ok (.iload_n 2, 1) := by decide +kernel
theorem dX9_sellBeads_116 : decode cX9_sellBeads 116 = .ok (.iconst 4, 1) := by decide +kernel
theorem dX9_sellBeads_117 : decode cX9_sellBeads 117 = .ok (.iload 5, 2) := by decide +kernel
theorem dX9_sellBeads_119 : decode cX9_sellBeads 119 = .ok (.invokevirtual 123, 3) := by decide +kernel
theorem dX9_sellBeads_122 : decode cX9_sellBeads 122 = .ok (.aload_n 0, 1) := by decide +kernel
theorem dX9_sellBeads_123 : decode cX9_sellBeads 123 = .ok (.getfield 25, 3) := by decide +kernel
theorem dX9_sellBeads_126 : decode cX9_sellBeads 126 = .ok (.aload_n 0, 1) := by decide +kernel
theorem dX9_sellBeads_127 : decode cX9_sellBeads 127 = .ok (.getfield 17, 3) := by decide +kernel
theorem dX9_sellBeads_130 : decode cX9_sellBeads 130 = .ok (.getfield 91, 3) := by decide +kernel
theorem dX9_sellBeads_133 : decode cX9_sellBeads 133 = .ok (.iconst 2, 1) := by decide +kernel
theorem dX9_sellBeads_134 : decode cX9_sellBeads 134 = .ok (.iload_n 1, 1) := by decide +kernel
theorem dX9_sellBeads_135 : decode cX9_sellBeads 135 = .ok (.iload 5, 2) := by decide +kernel
theorem dX9_sellBeads_137 : decode cX9_sellBeads 137 = .ok (.iconst 0, 1) := by decide +kernel
theorem dX9_sellBeads_138 : decode cX9_sellBeads 138 = .ok (.invokevirtual 132, 3) := by decide +kernel
theorem dX9_sellBeads_141 : decode cX9_sellBeads 141 = .ok (.pop, 1) := by decide +kernel
theorem dX9_sellBeads_142 : decode cX9_sellBeads 142 = .ok (.return_, 1) := by decide +kernel
theorem dX9_walk_0 : decode cX9_walk 0 = .ok (.aload_n 0, 1) := by decide +kernel
theorem dX9_walk_1 : decode cX9_walk 1 = .ok (.getfield 17, 3) := by decide +kernel
theorem dX9_walk_4 : decode cX9_walk 4 = .ok (.getfield 33, 3) := by decide +kernel
theorem dX9_walk_7 : decode cX9_walk 7 = .ok (.astore_n 1, 1) := by decide +kernel
theorem dX9_walk_8 : decode cX9_walk 8 = .ok (.iconst 0, 1) := by decide +kernel
theorem dX9_walk_9 : decode cX9_walk 9 = .ok (.istore_n 2, 1) := by decide +kernel
theorem dX9_walk_10 : decode cX9_walk 10 = .ok (.iload_n 2, 1) := by decide +kernel
theorem dX9_walk_11 : decode cX9_walk 11 = .ok (.aload_n 1, 1) := by decide +kernel
theorem dX9_walk_12 : decode cX9_walk 12 = .ok (.getfield 100, 3) := by decide +kernel
theorem dX9_walk_15 : decode cX9_walk 15 = .ok (.if_icmp .ge 30, 3) := by decide +kernel
theorem dX9_walk_18 : decode cX9_walk 18 = .ok (.aload_n 1, 1) := by decide +kernel
theorem dX9_walk_19 : decode cX9_walk 19 = .ok (.iload_n 2, 1) := by decide +kernel
theorem dX9_walk_20 : decode cX9_walk 20 = .ok (.iconst 0, 1) := by decide +kernel
theorem dX9_walk_21 : decode cX9_walk 21 = .ok (.aload_n 1, 1) := by decide +kernel
theorem dX9_walk_22 : decode cX9_walk 22 = .ok (.iload_n 2, 1) := by decide +kernel
theorem dX9_walk_23 : decode cX9_walk 23 = .ok (.iconst 1, 1) := by decide +kernel
theorem dX9_walk_24 : decode cX9_walk 24 = .ok (.invokevirtual 50, 3) := by decide +kernel
theorem dX9_walk_27 : decode cX9_walk 27 = .ok (.aload_n 1, 1) := by decide +kernel
theorem dX9_walk_28 : decode cX9_walk 28 = .ok (.iload_n 2, 1) := by decide +kernel
theorem dX9_walk_29 : decode cX9_walk 29 = .ok (.iconst 0, 1) := by decide +kernel
theorem dX9_walk_30 : decode cX9_walk 30 = .ok (.invokevirtual 50, 3) := by decide +kernel
theorem dX9_walk_33 : decode cX9_walk 33 = .ok (.invokestatic 155, 3) := by decide +kernel
theorem dX9_walk_36 : decode cX9_walk 36 = .ok (.invokevirtual 123, 3) := by decide +kernel
theorem dX9_walk_39 : decode cX9_walk 39 = .ok (.iinc 2 1, 3) := by decide +kernel
theorem dX9_walk_42 : decode cX9_walk 42 = .ok (.goto (-32), 3) := by decide +kernel
theorem dX9_walk_45 : decode cX9_walk 45 = .ok (.return_, 1) := by decide +kernel
theorem dX9_growDry_0 : decode cX9_growDry 0 = .ok (.aload_n 0, 1) := by decide +kernel
theorem dX9_growDry_1 : decode cX9_growDry 1 = .ok (.getfield 17, 3) := by decide +kernel
theorem dX9_growDry_4 : decode cX9_growDry 4 = .ok (.getfield 62, 3) := by decide +kernel
theorem dX9_growDry_7 : decode cX9_growDry 7 = .ok (.astore_n 1, 1) := by decide +kernel
theorem dX9_growDry_8 : decode cX9_growDry 8 = .ok (.iconst 0, 1) := by decide +kernel
theorem dX9_growDry_9 : decode cX9_growDry 9 = .ok (.istore_n 2, 1) := by decide +kernel
theorem dX9_growDry_10 : decode cX9_growDry 10 = .ok (.iload_n 2, 1) := by decide +kernel
theorem dX9_growDry_11 : decode cX9_growDry 11 = .ok (.aload_n 1, 1) := by decide +kernel
theorem dX9_growDry_12 : decode cX9_growDry 12 = .ok (.getfield 100, 3) := by decide +kernel
theorem dX9_growDry_15 : decode cX9_growDry 15 = .ok (.if_icmp .ge 25, 3) := by decide +kernel
theorem dX9_growDry_18 : decode cX9_growDry 18 = .ok (.aload_n 1, 1) := by decide +kernel
theorem dX9_growDry_19 : decode cX9_growDry 19 = .ok (.iload_n 2, 1) := by decide +kernel
theorem dX9_growDry_20 : decode cX9_growDry 20 = .ok (.iconst 1, 1) := by decide +kernel
theorem dX9_growDry_21 : decode cX9_growDry 21 = .ok (.invokevirtual 50, 3) := by decide +kernel
theorem dX9_growDry_24 : decode cX9_growDry 24 = .ok (.ifCond .le 10, 3) := by decide +kernel
theorem dX9_growDry_27 : decode cX9_growDry 27 = .ok (.aload_n 1, 1) := by decide +kernel
theorem dX9_growDry_28 : decode cX9_growDry 28 = .ok (.iload_n 2, 1) := by decide +kernel
theorem dX9_growDry_29 : decode cX9_growDry 29 = .ok (.iconst 3, 1) := by decide +kernel
theorem dX9_growDry_30 : decode cX9_growDry 30 = .ok (.iconst 1, 1) := by decide +kernel
theorem dX9_growDry_31 : decode cX9_growDry 31 = .ok (.invokevirtual 123, 3) := by decide +kernel
theorem dX9_growDry_34 : decode cX9_growDry 34 = .ok (.iinc 2 1, 3) := by decide +kernel
theorem dX9_growDry_37 : decode cX9_growDry 37 = .ok (.goto (-27), 3) := by decide +kernel
theorem dX9_growDry_40 : decode cX9_growDry 40 = .ok (.return_, 1) := by decide +kernel
theorem dX9_tells_0 : decode cX9_tells 0 = .ok (.aload_n 0, 1) := by decide +kernel
theorem dX9_tells_1 : decode cX9_tells 1 = .ok (.iload_n 1, 1) := by decide +kernel
theorem dX9_tells_2 : decode cX9_tells 2 = .ok (.invokevirtual 158, 3) := by decide +kernel
theorem dX9_tells_5 : decode cX9_tells 5 = .ok (.istore_n 3, 1) := by decide +kernel
theorem dX9_tells_6 : decode cX9_tells 6 = .ok (.aload_n 0, 1) := by decide +kernel
theorem dX9_tells_7 : decode cX9_tells 7 = .ok (.getfield 21, 3) := by decide +kernel
theorem dX9_tells_10 : decode cX9_tells 10 = .ok (.getfield 161, 3) := by decide +kernel
theorem dX9_tells_13 : decode cX9_tells 13 = .ok (.getfield 165, 3) := by decide +kernel
theorem dX9_tells_16 : decode cX9_tells 16 = .ok (.iconst 0, 1) := by decide +kernel
theorem dX9_tells_17 : decode cX9_tells 17 = .ok (.iload_n 1, 1) := by decide +kernel
theorem dX9_tells_18 : decode cX9_tells 18 = .ok (.invokevirtual 168, 3) := by decide +kernel
theorem dX9_tells_21 : decode cX9_tells 21 = .ok (.iconst (-1), 1) := by decide +kernel
theorem dX9_tells_22 : decode cX9_tells 22 = .ok (.if_icmp .eq 52, 3) := by decide +kernel
theorem dX9_tells_25 : decode cX9_tells 25 = .ok (.aload_n 0, 1) := by decide +kernel
theorem dX9_tells_26 : decode cX9_tells 26 = .ok (.iload_n 2, 1) := by decide +kernel
theorem dX9_tells_27 : decode cX9_tells 27 = .ok (.invokevirtual 171, 3) := by decide +kernel
theorem dX9_tells_30 : decode cX9_tells 30 = .ok (.aload_n 0, 1) := by decide +kernel
theorem dX9_tells_31 : decode cX9_tells 31 = .ok (.getfield 21, 3) := by decide +kernel
theorem dX9_tells_34 : decode cX9_tells 34 = .ok (.getfield 161, 3) := by decide +kernel
theorem dX9_tells_37 : decode cX9_tells 37 = .ok (.iload_n 1, 1) := by decide +kernel
theorem dX9_tells_38 : decode cX9_tells 38 = .ok (.aload_n 0, 1) := by decide +kernel
theorem dX9_tells_39 : decode cX9_tells 39 = .ok (.getfield 11, 3) := by decide +kernel
theorem dX9_tells_42 : decode cX9_tells 42 = .ok (.invokevirtual 174, 3) := by decide +kernel
theorem dX9_tells_45 : decode cX9_tells 45 = .ok (.istore 4, 2) := by decide +kernel
theorem dX9_tells_47 : decode cX9_tells 47 = .ok (.iload 4, 2) := by decide +kernel
theorem dX9_tells_49 : decode cX9_tells 49 = .ok (.iconst (-1), 1) := by decide +kernel
theorem dX9_tells_50 : decode cX9_tells 50 = .ok (.if_icmp .ne 7, 3) := by decide +kernel
theorem dX9_tells_53 : decode cX9_tells 53 = .ok (.iload_n 3, 1) := by decide +kernel
theorem dX9_tells_54 : decode cX9_tells 54 = .ok (.goto 19, 3) := by decide +kernel
theorem dX9_tells_57 : decode cX9_tells 57 = .ok (.aload_n 0, 1) := by decide +kernel
theorem dX9_tells_58 : decode cX9_tells 58 = .ok (.getfield 21, 3) := by decide +kernel
theorem dX9_tells_61 : decode cX9_tells 61 = .ok (.getfield 161, 3) := by decide +kernel
theorem dX9_tells_64 : decode cX9_tells 64 = .ok (.iload 4, 2) := by decide +kernel
theorem dX9_tells_66 : decode cX9_tells 66 = .ok (.aload_n 0, 1) := by decide +kernel
theorem dX9_tells_67 : decode cX9_tells 67 = .ok (.getfield 11, 3) := by decide +kernel
theorem dX9_tells_70 : decode cX9_tells 70 = .ok (.invokevirtual 178, 3) := by decide +kernel
theorem dX9_tells_73 : decode cX9_tells 73 = .ok (.istore_n 3, 1) := by decide +kernel
theorem dX9_tells_74 : decode cX9_tells 74 = .ok (.iload_n 1, 1) := by decide +kernel
theorem dX9_tells_75 : decode cX9_tells 75 = .ok (.iconst 2, 1) := by decide +kernel
theorem dX9_tells_76 : decode cX9_tells 76 = .ok (.if_icmp .ne 9, 3) := by decide +kernel
theorem dX9_tells_79 : decode cX9_tells 79 = .ok (.sipush 1000, 3) := by decide +kernel
theorem dX9_tells_82 : decode cX9_tells 82 = .ok (.goto 5, 3) := by decide +kernel
theorem dX9_tells_85 : decode cX9_tells 85 = .ok (.bipush 20, 2) := by decide +kernel
theorem dX9_tells_87 : decode cX9_tells 87 = .ok (.istore 4, 2) := by decide +kernel
theorem dX9_tells_89 : decode cX9_tells 89 = .ok (.iconst 0, 1) := by decide +kernel
theorem dX9_tells_90 : decode cX9_tells 90 = .ok (.iload 4, 2) := by decide +kernel
theorem dX9_tells_92 : decode cX9_tells 92 = .ok (.iload_n 3, 1) := by decide +kernel
theorem dX9_tells_93 : decode cX9_tells 93 = .ok (.invokestatic 118, 3) := by decide +kernel
theorem dX9_tells_96 : decode cX9_tells 96 = .ok (.invokestatic 181, 3) := by decide +kernel
theorem dX9_tells_99 : decode cX9_tells 99 = .ok (.ireturn, 1) := by decide +kernel
theorem dX9_customOf_0 : decode cX9_customOf 0 = .ok (.iload_n 1, 1) := by decide +kernel
theorem dX9_customOf_1 : decode cX9_customOf 1 = .ok (.ifCond .ne 11, 3) := by decide +kernel
theorem dX9_customOf_4 : decode cX9_customOf 4 = .ok (.aload_n 0, 1) := by decide +kernel
theorem dX9_customOf_5 : decode cX9_customOf 5 = .ok (.getfield 17, 3) := by decide +kernel
theorem dX9_customOf_8 : decode cX9_customOf 8 = .ok (.getfield 103, 3) := by decide +kernel
theorem dX9_customOf_11 : decode cX9_customOf 11 = .ok (.ireturn, 1) := by decide +kernel
theorem dX9_customOf_12 : decode cX9_customOf 12 = .ok (.iload_n 1, 1) := by decide +kernel
theorem dX9_customOf_13 : decode cX9_customOf 13 = .ok (.iconst 1, 1) := by decide +kernel
theorem dX9_customOf_14 : decode cX9_customOf 14 = .ok (.if_icmp .ne 13, 3) := by decide +kernel
theorem dX9_customOf_17 : decode cX9_customOf 17 = .ok (.aload_n 0, 1) := by decide +kernel
theorem dX9_customOf_18 : decode cX9_customOf 18 = .ok (.getfield 17, 3) := by decide +kernel
theorem dX9_customOf_21 : decode cX9_customOf 21 = .ok (.getfield 106, 3) := by decide +kernel
theorem dX9_customOf_24 : decode cX9_customOf 24 = .ok (.goto 13, 3) := by decide +kernel
theorem dX9_customOf_27 : decode cX9_customOf 27 = .ok (.bipush 100, 2) := by decide +kernel
theorem dX9_customOf_29 : decode cX9_customOf 29 = .ok (.aload_n 0, 1) := by decide +kernel
theorem dX9_customOf_30 : decode cX9_customOf 30 = .ok (.getfield 17, 3) := by decide +kernel
theorem dX9_customOf_33 : decode cX9_customOf 33 = .ok (.getfield 109, 3) := by decide +kernel
theorem dX9_customOf_36 : decode cX9_customOf 36 = .ok (.imul, 1) := by decide +kernel
theorem dX9_customOf_37 : decode cX9_customOf 37 = .ok (.ireturn, 1) := by decide +kernel
theorem dX9_gatherFacts_0 : decode cX9_gatherFacts 0 = .ok (.aload_n 0, 1) := by decide +kernel
theorem dX9_gatherFacts_1 : decode cX9_gatherFacts 1 = .ok (.getfield 11, 3) := by decide +kernel
theorem dX9_gatherFacts_4 : decode cX9_gatherFacts 4 = .ok (.iconst 0, 1) := by decide +kernel
theorem dX9_gatherFacts_5 : decode cX9_gatherFacts 5 = .ok (.aload_n 0, 1) := by decide +kernel
theorem dX9_gatherFacts_6 : decode cX9_gatherFacts 6 = .ok (.getfield 17, 3) := by decide +kernel
theorem dX9_gatherFacts_9 : decode cX9_gatherFacts 9 = .ok (.getfield 38, 3) := by decide +kernel
theorem dX9_gatherFacts_12 : decode cX9_gatherFacts 12 = .ok (.iload_n 1, 1) := by decide +kernel
theorem dX9_gatherFacts_13 : decode cX9_gatherFacts 13 = .ok (.iconst 2, 1) := by decide +kernel
theorem dX9_gatherFacts_14 : decode cX9_gatherFacts 14 = .ok (.invokevirtual 50, 3) := by decide +kernel
theorem dX9_gatherFacts_17 : decode cX9_gatherFacts 17 = .ok (.iastore, 1) := by decide +kernel
theorem dX9_gatherFacts_18 : decode cX9_gatherFacts 18 = .ok (.aload_n 0, 1) := by decide +kernel
theorem dX9_gatherFacts_19 : decode cX9_gatherFacts 19 = .ok (.getfield 11, 3) := by decide +kernel
theorem dX9_gatherFacts_22 : decode cX9_gatherFacts 22 = .ok (.iconst 1, 1) := by decide +kernel
theorem dX9_gatherFacts_23 : decode cX9_gatherFacts 23 = .ok (.aload_n 0, 1) := by decide +kernel
theorem dX9_gatherFacts_24 : decode cX9_gatherFacts 24 = .ok (.getfield 17, 3) := by decide +kernel
theorem dX9_gatherFacts_27 : decode cX9_gatherFacts 27 = .ok (.getfield 38, 3) := by decide +kernel
theorem dX9_gatherFacts_30 : decode cX9_gatherFacts 30 = .ok (.iload_n 1, 1) := by decide +kernel
theorem dX9_gatherFacts_31 : decode cX9_gatherFacts 31 = .ok (.iconst 1, 1) := by decide +kernel
theorem dX9_gatherFacts_32 : decode cX9_gatherFacts 32 = .ok (.invokevirtual 50, 3) := by decide +kernel
theorem dX9_gatherFacts_35 : decode cX9_gatherFacts 35 = .ok (.iastore, 1) := by decide +kernel
theorem dX9_gatherFacts_36 : decode cX9_gatherFacts 36 = .ok (.aload_n 0, 1) := by decide +kernel
theorem dX9_gatherFacts_37 : decode cX9_gatherFacts 37 = .ok (.getfield 11, 3) := by decide +kernel
theorem dX9_gatherFacts_40 : decode cX9_gatherFacts 40 = .ok (.iconst 2, 1) := by decide +kernel
theorem dX9_gatherFacts_41 : decode cX9_gatherFacts 41 = .ok (.aload_n 0, 1) := by decide +kernel
theorem dX9_gatherFacts_42 : decode cX9_gatherFacts 42 = .ok (.getfield 17, 3) := by decide +kernel
theorem dX9_gatherFacts_45 : decode cX9_gatherFacts 45 = .ok (.getfield 38, 3) := by decide +kernel
theorem dX9_gatherFacts_48 : decode cX9_gatherFacts 48 = .ok (.iload_n 1, 1) := by decide +kernel
theorem dX9_gatherFacts_49 : decode cX9_gatherFacts 49 = .ok (.iconst 0, 1) := by decide +kernel
theorem dX9_gatherFacts_50 : decode cX9_gatherFacts 50 = .ok (.invokevirtual 50, 3) := by decide +kernel
theorem dX9_gatherFacts_53 : decode cX9_gatherFacts 53 = .ok (.iastore, 1) := by decide +kernel
theorem dX9_gatherFacts_54 : decode cX9_gatherFacts 54 = .ok (.aload_n 0, 1) := by decide +kernel
theorem dX9_gatherFacts_55 : decode cX9_gatherFacts 55 = .ok (.getfield 11, 3) := by decide +kernel
theorem dX9_gatherFacts_58 : decode cX9_gatherFacts 58 = .ok (.iconst 3, 1) := by decide +kernel
theorem dX9_gatherFacts_59 : decode cX9_gatherFacts 59 = .ok (.aload_n 0, 1) := by decide +kernel
theorem dX9_gatherFacts_60 : decode cX9_gatherFacts 60 = .ok (.getfield 21, 3) := by decide +kernel
theorem dX9_gatherFacts_63 : decode cX9_gatherFacts 63 = .ok (.iload_n 1, 1) := by decide +kernel
theorem dX9_gatherFacts_64 : decode cX9_gatherFacts 64 = .ok (.invokevirtual 143, 3) := by decide +kernel
theorem dX9_gatherFacts_67 : decode cX9_gatherFacts 67 = .ok (.invokestatic 150, 3) := by decide +kernel
theorem dX9_gatherFacts_70 : decode cX9_gatherFacts 70 = .ok (.iastore, 1) := by decide +kernel
theorem dX9_gatherFacts_71 : decode cX9_gatherFacts 71 = .ok (.aload_n 0, 1) := by decide +kernel
theorem dX9_gatherFacts_72 : decode cX9_gatherFacts 72 = .ok (.getfield 11, 3) := by decide +kernel
theorem dX9_gatherFacts_75 : decode cX9_gatherFacts 75 = .ok (.iconst 4, 1) := by decide +kernel
theorem dX9_gatherFacts_76 : decode cX9_gatherFacts 76 = .ok (.aload_n 0, 1) := by decide +kernel
theorem dX9_gatherFacts_77 : decode cX9_gatherFacts 77 = .ok (.getfield 17, 3) := by decide +kernel
theorem dX9_gatherFacts_80 : decode cX9_gatherFacts 80 = .ok (.invokevirtual 146, 3) := by decide +kernel
theorem dX9_gatherFacts_83 : decode cX9_gatherFacts 83 = .ok (.invokestatic 150, 3) := by decide +kernel
theorem dX9_gatherFacts_86 : decode cX9_gatherFacts 86 = .ok (.iastore, 1) := by decide +kernel
theorem dX9_gatherFacts_87 : decode cX9_gatherFacts 87 = .ok (.aload_n 0, 1) := by decide +kernel
theorem dX9_gatherFacts_88 : decode cX9_gatherFacts 88 = .ok (.getfield 11, 3) := by decide +kernel
theorem dX9_gatherFacts_91 : decode cX9_gatherFacts 91 = .ok (.iconst 5, 1) := by decide +kernel
theorem dX9_gatherFacts_92 : decode cX9_gatherFacts 92 = .ok (.aload_n 0, 1) := by decide +kernel
theorem dX9_gatherFacts_93 : decode cX9_gatherFacts 93 = .ok (.getfield 17, 3) := by decide +kernel
theorem dX9_gatherFacts_96 : decode cX9_gatherFacts 96 = .ok (.getfield 103, 3) := by decide +kernel
theorem dX9_gatherFacts_99 : decode cX9_gatherFacts 99 = .ok (.iastore, 1) := by decide +kernel
theorem dX9_gatherFacts_100 : decode cX9_gatherFacts 100 = .ok (.aload_n 0, 1) := by decide +kernel
theorem dX9_gatherFacts_101 : decode cX9_gatherFacts 101 = .ok (.getfield 11, 3) := by decide +kernel
theorem dX9_gatherFacts_104 : decode cX9_gatherFacts 104 = .ok (.bipush 6, 2) := by decide +kernel
theorem dX9_gatherFacts_106 : decode cX9_gatherFacts 106 = .ok (.aload_n 0, 1) := by decide +kernel
theorem dX9_gatherFacts_107 : decode cX9_gatherFacts 107 = .ok (.getfield 17, 3) := by decide +kernel
theorem dX9_gatherFacts_110 : decode cX9_gatherFacts 110 = .ok (.getfield 106, 3) := by decide +kernel
theorem dX9_gatherFacts_113 : decode cX9_gatherFacts 113 = .ok (.iastore, 1) := by decide +kernel
theorem dX9_gatherFacts_114 : decode cX9_gatherFacts 114 = .ok (.aload_n 0, 1) := by decide +kernel
theorem dX9_gatherFacts_115 : decode cX9_gatherFacts 115 = .ok (.getfield 11, 3) := by decide +kernel
theorem dX9_gatherFacts_118 : decode cX9_gatherFacts 118 = .ok (.bipush 7, 2) := by decide +kernel
theorem dX9_gatherFacts_120 : decode cX9_gatherFacts 120 = .ok (.aload_n 0, 1) := by decide +kernel
theorem dX9_gatherFacts_121 : decode cX9_gatherFacts 121 = .ok (.getfield 17, 3) := by decide +kernel
theorem dX9_gatherFacts_124 : decode cX9_gatherFacts 124 = .ok (.getfield 109, 3) := by decide +kernel
theorem dX9_gatherFacts_127 : decode cX9_gatherFacts 127 = .ok (.iastore, 1) := by decide +kernel
theorem dX9_gatherFacts_128 : decode cX9_gatherFacts 128 = .ok (.aload_n 0, 1) := by decide +kernel
theorem dX9_gatherFacts_129 : decode cX9_gatherFacts 129 = .ok (.getfield 11, 3) := by decide +kernel
theorem dX9_gatherFacts_132 : decode cX9_gatherFacts 132 = .ok (.bipush 8, 2) := by decide +kernel
theorem dX9_gatherFacts_134 : decode cX9_gatherFacts 134 = .ok (.aload_n 0, 1) := by decide +kernel
theorem dX9_gatherFacts_135 : decode cX9_gatherFacts 135 = .ok (.getfield 17, 3) := by decide +kernel
theorem dX9_gatherFacts_138 : decode cX9_gatherFacts 138 = .ok (.getfield 91, 3) := by decide +kernel
theorem dX9_gatherFacts_141 : decode cX9_gatherFacts 141 = .ok (.iastore, 1) := by decide +kernel
theorem dX9_gatherFacts_142 : decode cX9_gatherFacts 142 = .ok (.return_, 1) := by decide +kernel
theorem dX10_init_0 : decode cX10_init 0 = .ok (.aload_n 0, 1) := by decide +kernel
theorem dX10_init_1 : decode cX10_init 1 = .ok (.invokespecial 1, 3) := by decide +kernel
theorem dX10_init_4 : decode cX10_init 4 = .ok (.aload_n 0, 1) := by decide +kernel
theorem dX10_init_5 : decode cX10_init 5 = .ok (.bipush 6, 2) := by decide +kernel
theorem dX10_init_7 : decode cX10_init 7 = .ok (.anewarray 9, 3) := by decide +kernel
theorem dX10_init_10 : decode cX10_init 10 = .ok (.putfield 11, 3) := by decide +kernel
theorem dX10_init_13 : decode cX10_init 13 = .ok (.aload_n 0, 1) := by decide +kernel
theorem dX10_init_14 : decode cX10_init 14 = .ok (.bipush 6, 2) := by decide +kernel
theorem dX10_init_16 : decode cX10_init 16 = .ok (.newarray .int, 2) := by decide +kernel
theorem dX10_init_18 : decode cX10_init 18 = .ok (.putfield 15, 3) := by decide +kernel
theorem dX10_init_21 : decode cX10_init 21 = .ok (.iconst 0, 1) := by decide +kernel
theorem dX10_init_22 : decode cX10_init 22 = .ok (.istore_n 1, 1) := by decide +kernel
theorem dX10_init_23 : decode cX10_init 23 = .ok (.iload_n 1, 1) := by decide +kernel
theorem dX10_init_24 : decode cX10_init 24 = .ok (.bipush 6, 2) := by decide +kernel
theorem dX10_init_26 : decode cX10_init 26 = .ok (.if_icmp .ge 22, 3) := by decide +kernel
theorem dX10_init_29 : decode cX10_init 29 = .ok (.aload_n 0, 1) := by decide +kernel
theorem dX10_init_30 : decode cX10_init 30 = .ok (.getfield 11, 3) := by decide +kernel
theorem dX10_init_33 : decode cX10_init 33 = .ok (.iload_n 1, 1) := by decide +kernel
theorem dX10_init_34 : decode cX10_init 34 = .ok (.new 9, 3) := by decide +kernel
theorem dX10_init_37 : decode cX10_init 37 = .ok (.dup, 1) := by decide +kernel
theorem dX10_init_38 : decode cX10_init 38 = .ok (.invokespecial 19, 3) := by decide +kernel
theorem dX10_init_41 : decode cX10_init 41 = .ok (.aastore, 1) := by decide +kernel
theorem dX10_init_42 : decode cX10_init 42 = .ok (.iinc 1 1, 3) := by decide +kernel
theorem dX10_init_45 : decode cX10_init 45 = .ok (.goto (-22), 3) := by decide +kernel
theorem dX10_init_48 : decode cX10_init 48 = .ok (.return_, 1) := by decide +kernel
theorem dX10_forget_0 : decode cX10_forget 0 = .ok (.aload_n 0, 1) := by decide +kernel
theorem dX10_forget_1 : decode cX10_forget 1 = .ok (.iconst 0, 1) := by decide +kernel
theorem dX10_forget_2 : decode cX10_forget 2 = .ok (.putfield 20, 3) := by decide +kernel
theorem dX10_forget_5 : decode cX10_forget 5 = .ok (.return_, 1) := by decide +kernel
theorem dX10_keep_0 : decode cX10_keep 0 = .ok (.aload_n 0, 1) := by decide +kernel
theorem dX10_keep_1 : decode cX10_keep 1 = .ok (.getfield 20, 3) := by decide +kernel
theorem dX10_keep_4 : decode cX10_keep 4 = .ok (.bipush 6, 2) := by decide +kernel
theorem dX10_keep_6 : decode cX10_keep 6 = .ok (.if_icmp .ne 28, 3) := by decide +kernel
theorem dX10_keep_9 : decode cX10_keep 9 = .ok (.aload_n 0, 1) := by decide +kernel
theorem dX10_keep_10 : decode cX10_keep 10 = .ok (.aload_n 0, 1) := by decide +kernel
theorem dX10_keep_11 : decode cX10_keep 11 = .ok (.getfield 24, 3) := by decide +kernel
theorem dX10_keep_14 : decode cX10_keep 14 = .ok (.iconst 1, 1) := by decide +kernel
theorem dX10_keep_15 : decode cX10_keep 15 = .ok (.iadd, 1) := by decide +kernel
theorem dX10_keep_16 : decode cX10_keep 16 = .ok (.bipush 6, 2) := by decide +kernel
theorem dX10_keep_18 : decode cX10_keep 18 = .ok (.invokestatic 27, 3) := by decide +kernel
theorem dX10_keep_21 : decode cX10_keep 21 = .ok (.putfield 24, 3) := by decide +kernel
theorem dX10_keep_24 : decode cX10_keep 24 = .ok (.aload_n 0, 1) := by decide +kernel
theorem dX10_keep_25 : decode cX10_keep 25 = .ok (.dup, 1) := by decide +kernel
theorem dX10_keep_26 : decode cX10_keep 26 = .ok (.getfield 20, 3) := by decide +kernel
theorem dX10_keep_29 : decode cX10_keep 29 = .ok (.iconst 1, 1) := by decide +kernel
theorem dX10_keep_30 : decode cX10_keep 30 = .ok (.isub, 1) := by decide +kernel
theorem dX10_keep_31 : decode cX10_keep 31 = .ok (.putfield 20, 3) := by decide +kernel
theorem dX10_keep_34 : decode cX10_keep 34 = .ok (.aload_n 0, 1) := by decide +kernel
theorem dX10_keep_35 : decode cX10_keep 35 = .ok (.getfield 24, 3) := by decide +kernel
theorem dX10_keep_38 : decode cX10_keep 38 = .ok (.aload_n 0, 1) := by decide +kernel
theorem dX10_keep_39 : decode cX10_keep 39 = .ok (.getfield 20, 3) := by decide +kernel
theorem dX10_keep_42 : decode cX10_keep 42 = .ok (.iadd, 1) := by decide +kernel
theorem dX10_keep_43 : decode cX10_keep 43 = .ok (.bipush 6, 2) := by decide +kernel
theorem dX10_keep_45 : decode cX10_keep 45 = .ok (.invokestatic 27, 3) := by decide +kernel
theorem dX10_keep_48 : decode cX10_keep 48 = .ok (.istore_n 3, 1) := by decide +kernel
theorem dX10_keep_49 : decode cX10_keep 49 = .ok (.aload_n 0, 1) := by decide +kernel
theorem dX10_keep_50 : decode cX10_keep 50 = .ok (.getfield 11, 3) := by decide +kernel
theorem dX10_keep_53 : decode cX10_keep 53 = .ok (.iload_n 3, 1) := by decide +kernel
theorem dX10_keep_54 : decode cX10_keep 54 = .ok (.aaload, 1) := by decide +kernel
theorem dX10_keep_55 : decode cX10_keep 55 = .ok (.astore 4, 2) := by decide +kernel
theorem dX10_keep_57 : decode cX10_keep 57 = .ok (.aload 4, 2) := by decide +kernel
theorem dX10_keep_59 : decode cX10_keep 59 = .ok (.ifnull 9, 3) := by decide +kernel
theorem dX10_keep_62 : decode cX10_keep 62 = .ok (.aload 4, 2) := by decide +kernel
theorem dX10_keep_64 : decode cX10_keep 64 = .ok (.aload_n 1, 1) := by decide +kernel
theorem dX10_keep_65 : decode cX10_keep 65 = .ok (.invokevirtual 33, 3) := by decide +kernel
theorem dX10_keep_68 : decode cX10_keep 68 = .ok (.aload_n 0, 1) := by decide +kernel
theorem dX10_keep_69 : decode cX10_keep 69 = .ok (.getfield 15, 3) := by decide +kernel
theorem dX10_keep_72 : decode cX10_keep 72 = .ok (.iload_n 3, 1) := by decide +kernel
theorem dX10_keep_73 : decode cX10_keep 73 = .ok (.iload_n 2, 1) := by decide +kernel
theorem dX10_keep_74 : decode cX10_keep 74 = .ok (.iastore, 1) := by decide +kernel
theorem dX10_keep_75 : decode cX10_keep 75 = .ok (.aload_n 0, 1) := by decide +kernel
theorem dX10_keep_76 : decode cX10_keep 76 = .ok (.dup, 1) := by decide +kernel
theorem dX10_keep_77 : decode cX10_keep 77 = .ok (.getfield 20, 3) := by decide +kernel
theorem dX10_keep_80 : decode cX10_keep 80 = .ok (.iconst 1, 1) := by decide +kernel
theorem dX10_keep_81 : decode cX10_keep 81 = .ok (.iadd, 1) := by decide +kernel
theorem dX10_keep_82 : decode cX10_keep 82 = .ok (.putfield 20, 3) := by decide +kernel
theorem dX10_keep_85 : decode cX10_keep 85 = .ok (.return_, 1) := by decide +kernel
theorem dX10_goBack_0 : decode cX10_goBack 0 = .ok (.aload_n 0, 1) := by decide +kernel
theorem dX10_goBack_1 : decode cX10_goBack 1 = .ok (.iconst 0, 1) := by decide +kernel
theorem dX10_goBack_2 : decode cX10_goBack 2 = .ok (.aload_n 0, 1) := by decide +kernel
theorem dX10_goBack_3 : decode cX10_goBack 3 = .ok (.getfield 20, 3) := by decide +kernel
theorem dX10_goBack_6 : decode cX10_goBack 6 = .ok (.iconst 1, 1) := by decide +kernel
theorem dX10_goBack_7 : decode cX10_goBack 7 = .ok (.isub, 1) := by decide +kernel
theorem dX10_goBack_8 : decode cX10_goBack 8 = .ok (.invokestatic 37, 3) := by decide +kernel
theorem dX10_goBack_11 : decode cX10_goBack 11 = .ok (.putfield 20, 3) := by decide +kernel
theorem dX10_goBack_14 : decode cX10_goBack 14 = .ok (.aload_n 0, 1) := by decide +kernel
theorem dX10_goBack_15 : decode cX10_goBack 15 = .ok (.getfield 24, 3) := by decide +kernel
theorem dX10_goBack_18 : decode cX10_goBack 18 = .ok (.aload_n 0, 1) := by decide +kernel
theorem dX10_goBack_19 : decode cX10_goBack 19 = .ok (.getfield 20, 3) := by decide +kernel
theorem dX10_goBack_22 : decode cX10_goBack 22 = .ok (.iadd, 1) := by decide +kernel
theorem dX10_goBack_23 : decode cX10_goBack 23 = .ok (.bipush 6, 2) := by decide +kernel
theorem dX10_goBack_25 : decode cX10_goBack 25 = .ok (.invokestatic 27, 3) := by decide +kernel
theorem dX10_goBack_28 : decode cX10_goBack 28 = .ok (.istore_n 2, 1) := by decide +kernel
theorem dX10_goBack_29 : decode cX10_goBack 29 = .ok (.aload_n 0, 1) := by decide +kernel
theorem dX10_goBack_30 : decode cX10_goBack 30 = .ok (.getfield 11, 3) := by decide +kernel
theorem dX10_goBack_33 : decode cX10_goBack 33 = .ok (.iload_n 2, 1) := by decide +kernel
theorem dX10_goBack_34 : decode cX10_goBack 34 = .ok (.aaload, 1) := by decide +kernel
theorem dX10_goBack_35 : decode cX10_goBack 35 = .ok (.astore_n 3, 1) := by decide +kernel
theorem dX10_goBack_36 : decode cX10_goBack 36 = .ok (.aload_n 3, 1) := by decide +kernel
theorem dX10_goBack_37 : decode cX10_goBack 37 = .ok (.ifnull 8, 3) := by decide +kernel
theorem dX10_goBack_40 : decode cX10_goBack 40 = .ok (.aload_n 1, 1) := by decide +kernel
theorem dX10_goBack_41 : decode cX10_goBack 41 = .ok (.aload_n 3, 1) := by decide +kernel
theorem dX10_goBack_42 : decode cX10_goBack 42 = .ok (.invokevirtual 33, 3) := by decide +kernel
theorem dX10_goBack_45 : decode cX10_goBack 45 = .ok (.aload_n 0, 1) := by decide +kernel
theorem dX10_goBack_46 : decode cX10_goBack 46 = .ok (.getfield 15, 3) := by decide +kernel
theorem dX10_goBack_49 : decode cX10_goBack 49 = .ok (.iload_n 2, 1) := by decide +kernel
theorem dX10_goBack_50 : decode cX10_goBack 50 = .ok (.iaload, 1) := by decide +kernel
theorem dX10_goBack_51 : decode cX10_goBack 51 = .ok (.ireturn, 1) := by decide +kernel
theorem dX11_init_0 : decode cX11_init 0 = .ok (.aload_n 0, 1) := by decide +kernel
theorem dX11_init_1 : decode cX11_init 1 = .ok (.invokespecial 1, 3) := by decide +kernel
theorem dX11_init_4 : decode cX11_init 4 = .ok (.aload_n 0, 1) := by decide +kernel
theorem dX11_init_5 : decode cX11_init 5 = .ok (.new 7, 3) := by decide +kernel
theorem dX11_init_8 : decode cX11_init 8 = .ok (.dup, 1) := by decide +kernel
theorem dX11_init_9 : decode cX11_init 9 = .ok (.invokespecial 9, 3) := by decide +kernel
theorem dX11_init_12 : decode cX11_init 12 = .ok (.putfield 10, 3) := by decide +kernel
theorem dX11_init_15 : decode cX11_init 15 = .ok (.aload_n 0, 1) := by decide +kernel
theorem dX11_init_16 : decode cX11_init 16 = .ok (.new 16, 3) := by decide +kernel
theorem dX11_init_19 : decode cX11_init 19 = .ok (.dup, 1) := by decide +kernel
theorem dX11_init_20 : decode cX11_init 20 = .ok (.sipush 150, 3) := by decide +kernel
theorem dX11_init_23 : decode cX11_init 23 = .ok (.iconst 4, 1) := by decide +kernel
theorem dX11_init_24 : decode cX11_init 24 = .ok (.invokespecial 18, 3) := by decide +kernel
theorem dX11_init_27 : decode cX11_init 27 = .ok (.putfield 21, 3) := by decide +kernel
theorem dX11_init_30 : decode cX11_init 30 = .ok (.aload_n 0, 1) := by decide +kernel
theorem dX11_init_31 : decode cX11_init 31 = .ok (.new 25, 3) := by decide +kernel
theorem dX11_init_34 : decode cX11_init 34 = .ok (.dup, 1) := by decide +kernel
theorem dX11_init_35 : decode cX11_init 35 = .ok (.invokespecial 27, 3) := by decide +kernel
theorem dX11_init_38 : decode cX11_init 38 = .ok (.putfield 28, 3) := by decide +kernel
theorem dX11_init_41 : decode cX11_init 41 = .ok (.aload_n 0, 1) := by decide +kernel
theorem dX11_init_42 : decode cX11_init 42 = .ok (.new 32, 3) := by decide +kernel
theorem dX11_init_45 : decode cX11_init 45 = .ok (.dup, 1) := by decide +kernel
theorem dX11_init_46 : decode cX11_init 46 = .ok (.invokespecial 34, 3) := by decide +kernel
theorem dX11_init_49 : decode cX11_init 49 = .ok (.putfield 35, 3) := by decide +kernel
theorem dX11_init_52 : decode cX11_init 52 = .ok (.aload_n 0, 1) := by decide +kernel
theorem dX11_init_53 : decode cX11_init 53 = .ok (.new 16, 3) := by decide +kernel
theorem dX11_init_56 : decode cX11_init 56 = .ok (.dup, 1) := by decide +kernel
theorem dX11_init_57 : decode cX11_init 57 = .ok (.sipush 400, 3) := by decide +kernel
theorem dX11_init_60 : decode cX11_init 60 = .ok (.iconst 1, 1) := by decide +kernel
theorem dX11_init_61 : decode cX11_init 61 = .ok (.invokespecial 18, 3) := by decide +kernel
theorem dX11_init_64 : decode cX11_init 64 = .ok (.putfield 39, 3) := by decide +kernel
theorem dX11_init_67 : decode cX11_init 67 = .ok (.aload_n 0, 1) := by decide +kernel
theorem dX11_init_68 : decode cX11_init 68 = .ok (.new 42, 3) := by decide +kernel
theorem dX11_init_71 : decode cX11_init 71 = .ok (.dup, 1) := by decide +kernel
theorem dX11_init_72 : decode cX11_init 72 = .ok (.aload_n 0, 1) := by decide +kernel
theorem dX11_init_73 : decode cX11_init 73 = .ok (.getfield 39, 3) := by decide +kernel
theorem dX11_init_76 : decode cX11_init 76 = .ok (.aload_n 0, 1) := by decide +kernel
theorem dX11_init_77 : decode cX11_init 77 = .ok (.getfield 10, 3) := by decide +kernel
theorem dX11_init_80 : decode cX11_init 80 = .ok (.invokespecial 44, 3) := by decide +kernel
theorem dX11_init_83 : decode cX11_init 83 = .ok (.putfield 47, 3) := by decide +kernel
theorem dX11_init_86 : decode cX11_init 86 = .ok (.aload_n 0, 1) := by decide +kernel
theorem dX11_init_87 : decode cX11_init 87 = .ok (.new 51, 3) := by decide +kernel
theorem dX11_init_90 : decode cX11_init 90 = .ok (.dup, 1) := by decide +kernel
theorem dX11_init_91 : decode cX11_init 91 = .ok (.aload_n 0, 1) := by decide +kernel
theorem dX11_init_92 : decode cX11_init 92 = .ok (.getfield 10, 3) := by decide +kernel
theorem dX11_init_95 : decode cX11_init 95 = .ok (.aload_n 0, 1) := by decide +kernel
theorem dX11_init_96 : decode cX11_init 96 = .ok (.getfield 28, 3) := by decide +kernel
theorem dX11_init_99 : decode cX11_init 99 = .ok (.aload_n 0, 1) := by decide +kernel
theorem dX11_init_100 : decode cX11_init 100 = .ok (.getfield 21, 3) := by decide +kernel
theorem dX11_init_103 : decode cX11_init 103 = .ok (.iconst 0, 1) := by decide +kernel
theorem dX11_init_104 : decode cX11_init 104 = .ok (.invokespecial 53, 3) := by decide +kernel
theorem dX11_init_107 : decode cX11_init 107 = .ok (.putfield 56, 3) := by decide +kernel
theorem dX11_init_110 : decode cX11_init 110 = .ok (.aload_n 0, 1) := by decide +kernel
theorem dX11_init_111 : decode cX11_init 111 = .ok (.new 7, 3) := by decide +kernel
theorem dX11_init_114 : decode cX11_init 114 = .ok (.dup, 1) := by decide +kernel
theorem dX11_init_115 : decode cX11_init 115 = .ok (.invokespecial 9, 3) := by decide +kernel
theorem dX11_init_118 : decode cX11_init 118 = .ok (.putfield 60, 3) := by decide +kernel
theorem dX11_init_121 : decode cX11_init 121 = .ok (.aload_n 0, 1) := by decide +kernel
theorem dX11_init_122 : decode cX11_init 122 = .ok (.new 51, 3) := by decide +kernel
theorem dX11_init_125 : decode cX11_init 125 = .ok (.dup, 1) := by decide +kernel
theorem dX11_init_126 : decode cX11_init 126 = .ok (.aload_n 0, 1) := by decide +kernel
theorem dX11_init_127 : decode cX11_init 127 = .ok (.getfield 60, 3) := by decide +kernel
theorem dX11_init_130 : decode cX11_init 130 = .ok (.aload_n 0, 1) := by decide +kernel
theorem dX11_init_131 : decode cX11_init 131 = .ok (.getfield 28, 3) := by decide +kernel
theorem dX11_init_134 : decode cX11_init 134 = .ok (.new 16, 3) := by decide +kernel
theorem dX11_init_137 : decode cX11_init 137 = .ok (.dup, 1) := by decide +kernel
theorem dX11_init_138 : decode cX11_init 138 = .ok (.iconst 0, 1) := by decide +kernel
theorem dX11_init_139 : decode cX11_init 139 = .ok (.iconst 4, 1) := by decide +kernel
theorem dX11_init_140 : decode cX11_init 140 = .ok (.invokespecial 18, 3) := by decide +kernel
theorem dX11_init_143 : decode cX11_init 143 = .ok (.iconst 1, 1) := by decide +kernel
theorem dX11_init_144 : decode cX11_init 144 = .ok (.invokespecial 53, 3) := by decide +kernel
theorem dX11_init_147 : decode cX11_init 147 = .ok (.putfield 63, 3) := by decide +kernel
theorem dX11_init_150 : decode cX11_init 150 = .ok (.aload_n 0, 1) := by decide +kernel
theorem dX11_init_151 : decode cX11_init 151 = .ok (.new 66, 3) := by decide +kernel
theorem dX11_init_154 : decode cX11_init 154 = .ok (.dup, 1) := by decide +kernel
theorem dX11_init_155 : decode cX11_init 155 = .ok (.invokespecial 68, 3) := by decide +kernel
theorem dX11_init_158 : decode cX11_init 158 = .ok (.putfield 69, 3) := by decide +kernel
theorem dX11_init_161 : decode cX11_init 161 = .ok (.aload_n 0, 1) := by decide +kernel
theorem dX11_init_162 : decode cX11_init 162 = .ok (.new 73, 3) := by decide +kernel
theorem dX11_init_165 : decode cX11_init 165 = .ok (.dup, 1) := by decide +kernel
theorem dX11_init_166 : decode cX11_init 166 = .ok (.invokespecial 75, 3) := by decide +kernel
theorem dX11_init_169 : decode cX11_init 169 = .ok (.putfield 76, 3) := by decide +kernel
theorem dX11_init_172 : decode cX11_init 172 = .ok (.aload_n 0, 1) := by decide +kernel
theorem dX11_init_173 : decode cX11_init 173 = .ok (.new 80, 3) := by decide +kernel
theorem dX11_init_176 : decode cX11_init 176 = .ok (.dup, 1) := by decide +kernel
theorem dX11_init_177 : decode cX11_init 177 = .ok (.invokespecial 82, 3) := by decide +kernel
theorem dX11_init_180 : decode cX11_init 180 = .ok (.putfield 83, 3) := by decide +kernel
theorem dX11_init_183 : decode cX11_init 183 = .ok (.return_, 1) := by decide +kernel
theorem dX11_state_0 : decode cX11_state 0 = .ok (.aload_n 0, 1) := by decide +kernel
theorem dX11_state_1 : decode cX11_state 1 = .ok (.getfield 10, 3) := by decide +kernel
theorem dX11_state_4 : decode cX11_state 4 = .ok (.getfield 87, 3) := by decide +kernel
theorem dX11_state_7 : decode cX11_state 7 = .ok (.istore_n 2, 1) := by decide +kernel
theorem dX11_state_8 : decode cX11_state 8 = .ok (.aload_n 0, 1) := by decide +kernel
theorem dX11_state_9 : decode cX11_state 9 = .ok (.getfield 10, 3) := by decide +kernel
theorem dX11_state_12 : decode cX11_state 12 = .ok (.iload_n 1, 1) := by decide +kernel
theorem dX11_state_13 : decode cX11_state 13 = .ok (.putfield 87, 3) := by decide +kernel
theorem dX11_state_16 : decode cX11_state 16 = .ok (.aload_n 0, 1) := by decide +kernel
theorem dX11_state_17 : decode cX11_state 17 = .ok (.getfield 69, 3) := by decide +kernel
theorem dX11_state_20 : decode cX11_state 20 = .ok (.invokevirtual 91, 3) := by decide +kernel
theorem dX11_state_23 : decode cX11_state 23 = .ok (.iload_n 2, 1) := by decide +kernel
theorem dX11_state_24 : decode cX11_state 24 = .ok (.ireturn, 1) := by decide +kernel
theorem dX11_web_0 : decode cX11_web 0 = .ok (.iload_n 1, 1) := by decide +kernel
theorem dX11_web_1 : decode cX11_web 1 = .ok (.iconst 0, 1) := by decide +kernel
theorem dX11_web_2 : decode cX11_web 2 = .ok (.bipush 19, 2) := by decide +kernel
theorem dX11_web_4 : decode cX11_web 4 = .ok (.invokestatic 94, 3) := by decide +kernel
theorem dX11_web_7 : decode cX11_web 7 = .ok (.ifCond .eq 26, 3) := by decide +kernel
theorem dX11_web_10 : decode cX11_web 10 = .ok (.iload_n 2, 1) := by decide +kernel
theorem dX11_web_11 : decode cX11_web 11 = .ok (.iconst 1, 1) := by decide +kernel
theorem dX11_web_12 : decode cX11_web 12 = .ok (.bipush 30, 2) := by decide +kernel
theorem dX11_web_14 : decode cX11_web 14 = .ok (.invokestatic 94, 3) := by decide +kernel
theorem dX11_web_17 : decode cX11_web 17 = .ok (.ifCond .eq 16, 3) := by decide +kernel
theorem dX11_web_20 : decode cX11_web 20 = .ok (.aload_n 0, 1) := by decide +kernel
theorem dX11_web_21 : decode cX11_web 21 = .ok (.getfield 10, 3) := by decide +kernel
theorem dX11_web_24 : decode cX11_web 24 = .ok (.getfield 98, 3) := by decide +kernel
theorem dX11_web_27 : decode cX11_web 27 = .ok (.invokevirtual 101, 3) := by decide +kernel
theorem dX11_web_30 : decode cX11_web 30 = .ok (.ifCond .eq 5, 3) := by decide +kernel
theorem dX11_web_33 : decode cX11_web 33 = .ok (.iconst (-1), 1) := by decide +kernel
theorem dX11_web_34 : decode cX11_web 34 = .ok (.ireturn, 1) := by decide +kernel
theorem dX11_web_35 : decode cX11_web 35 = .ok (.aload_n 0, 1) := by decide +kernel
theorem dX11_web_36 : decode cX11_web 36 = .ok (.getfield 69, 3) := by decide +kernel
theorem dX11_web_39 : decode cX11_web 39 = .ok (.invokevirtual 91, 3) := by decide +kernel
theorem dX11_web_42 : decode cX11_web 42 = .ok (.aload_n 0, 1) := by decide +kernel
theorem dX11_web_43 : decode cX11_web 43 = .ok (.getfield 10, 3) := by decide +kernel
theorem dX11_web_46 : decode cX11_web 46 = .ok (.getfield 98, 3) := by decide +kernel
theorem dX11_web_49 : decode cX11_web 49 = .ok (.iload_n 1, 1) := by decide +kernel
theorem dX11_web_50 : decode cX11_web 50 = .ok (.iload_n 2, 1) := by decide +kernel
theorem dX11_web_51 : decode cX11_web 51 = .ok (.iconst 0, 1) := by decide +kernel
theorem dX11_web_52 : decode cX11_web 52 = .ok (.iconst 0, 1) := by decide +kernel
theorem dX11_web_53 : decode cX11_web 53 = .ok (.iconst 0, 1) := by decide +kernel
theorem dX11_web_54 : decode cX11_web 54 = .ok (.invokevirtual 105, 3) := by decide +kernel
theorem dX11_web_57 : decode cX11_web 57 = .ok (.ireturn, 1) := by decide +kernel
theorem dX11_gatherer_0 : decode cX11_gatherer 0 = .ok (.iload_n 1, 1) := by decide +kernel
theorem dX11_gatherer_1 : decode cX11_gatherer 1 = .ok (.iconst 0, 1) := by decide +kernel
theorem dX11_gatherer_2 : decode cX11_gatherer 2 = .ok (.bipush 19, 2) := by decide +kernel
theorem dX11_gatherer_4 : decode cX11_gatherer 4 = .ok (.invokestatic 94, 3) := by decide +kernel
theorem dX11_gatherer_7 : decode cX11_gatherer 7 = .ok (.ifCond .eq 16, 3) := by decide +kernel
theorem dX11_gatherer_10 : decode cX11_gatherer 10 = .ok (.aload_n 0, 1) := by decide +kernel
theorem dX11_gatherer_11 : decode cX11_gatherer 11 = .ok (.getfield 10, 3) := by decide +kernel
theorem dX11_gatherer_14 : decode cX11_gatherer 14 = .ok (.getfield 109, 3) := by decide +kernel
theorem dX11_gatherer_17 : decode cX11_gatherer 17 = .ok (.invokevirtual 101, 3) := by decide +kernel
theorem dX11_gatherer_20 : decode cX11_gatherer 20 = .ok (.ifCond .eq 5, 3) := by decide +kernel
theorem dX11_gatherer_23 : decode cX11_gatherer 23 = .ok (.iconst (-1), 1) := by decide +kernel
theorem dX11_gatherer_24 : decode cX11_gatherer 24 = .ok (.ireturn, 1) := by decide +kernel
theorem dX11_gatherer_25 : decode cX11_gatherer 25 = .ok (.aload_n 0, 1) := by decide +kernel
theorem dX11_gatherer_26 : decode cX11_gatherer 26 = .ok (.getfield 69, 3) := by decide +kernel
theorem dX11_gatherer_29 : decode cX11_gatherer 29 = .ok (.invokevirtual 91, 3) := by decide +kernel
theorem dX11_gatherer_32 : decode cX11_gatherer 32 = .ok (.aload_n 0, 1) := by decide +kernel
theorem dX11_gatherer_33 : decode cX11_gatherer 33 = .ok (.getfield 10, 3) := by decide +kernel
theorem dX11_gatherer_36 : decode cX11_gatherer 36 = .ok (.getfield 109, 3) := by decide +kernel
theorem dX11_gatherer_39 : decode cX11_gatherer 39 = .ok (.iload_n 1, 1) := by decide +kernel
theorem dX11_gatherer_40 : decode cX11_gatherer 40 = .ok (.iload_n 1, 1) := by decide +kernel
theorem dX11_gatherer_41 : decode cX11_gatherer 41 = .ok (.iconst 0, 1) := by decide +kernel
theorem dX11_gatherer_42 : decode cX11_gatherer 42 = .ok (.iconst 0, 1) := by decide +kernel
theorem dX11_gatherer_43 : decode cX11_gatherer 43 = .ok (.iconst 0, 1) := by decide +kernel
theorem dX11_gatherer_44 : decode cX11_gatherer 44 = .ok (.invokevirtual 105, 3) := by decide +kernel
theorem dX11_gatherer_47 : decode cX11_gatherer 47 = .ok (.ireturn, 1) := by decide +kernel
theorem dX11_mourner_0 : decode cX11_mourner 0 = .ok (.iload_n 1, 1) := by decide +kernel
theorem dX11_mourner_1 : decode cX11_mourner 1 = .ok (.iconst 0, 1) := by decide +kernel
theorem dX11_mourner_2 : decode cX11_mourner 2 = .ok (.bipush 19, 2) := by decide +kernel
theorem dX11_mourner_4 : decode cX11_mourner 4 = .ok (.invokestatic 94, 3) := by decide +kernel
theorem dX11_mourner_7 : decode cX11_mourner 7 = .ok (.ifCond .eq 27, 3) := by decide +kernel
theorem dX11_mourner_10 : decode cX11_mourner 10 = .ok (.iload_n 2, 1) := by decide +kernel
theorem dX11_mourner_11 : decode cX11_mourner 11 = .ok (.iconst 0, 1) := by decide +kernel
theorem dX11_mourner_12 : decode cX11_mourner 12 = .ok (.bipush 99, 2) := by decide +kernel
theorem dX11_mourner_14 : decode cX11_mourner 14 = .ok (.invokestatic 94, 3) := by decide +kernel
theorem dX11_mourner_17 : decode cX11_mourner 17 = .ok (.ifCond .eq 17, 3) := by decide +kernel
theorem dX11_mourner_20 : decode cX11_mourner 20 = .ok (.iload_n 3, 1) := by decide +kernel
theorem dX11_mourner_21 : decode cX11_mourner 21 = .ok (.iconst 1, 1) := by decide +kernel
theorem dX11_mourner_22 : decode cX11_mourner 22 = .ok (.bipush 9, 2) := by decide +kernel
theorem dX11_mourner_24 : decode cX11_mourner 24 = .ok (.invokestatic 94, 3) := by decide +kernel
theorem dX11_mourner_27 : decode cX11_mourner 27 = .ok (.ifCond .eq 7, 3) := by decide +kernel
theorem dX11_mourner_30 : decode cX11_mourner 30 = .ok (.iconst 1, 1) := by decide +kernel
theorem dX11_mourner_31 : decode cX11_mourner 31 = .ok (.goto 4, 3) := by decide +kernel
theorem dX11_mourner_34 : decode cX11_mourner 34 = .ok (.iconst 0, 1) := by decide +kernel
theorem dX11_mourner_35 : decode cX11_mourner 35 = .ok (.istore 4, 2) := by decide +kernel
theorem dX11_mourner_37 : decode cX11_mourner 37 = .ok (.iload 4, 2) := by decide +kernel
theorem dX11_mourner_39 : decode cX11_mourner 39 = .ok (.ifCond .eq 16, 3) := by decide +kernel
theorem dX11_mourner_42 : decode cX11_mourner 42 = .ok (.aload_n 0, 1) := by decide +kernel
theorem dX11_mourner_43 : decode cX11_mourner 43 = .ok (.getfield 10, 3) := by decide +kernel
theorem dX11_mourner_46 : decode cX11_mourner 46 = .ok (.getfield 112, 3) := by decide +kernel
theorem dX11_mourner_49 : decode cX11_mourner 49 = .ok (.invokevirtual 101, 3) := by decide +kernel
theorem dX11_mourner_52 : decode cX11_mourner 52 = .ok (.ifCond .eq 5, 3) := by decide +kernel
theorem dX11_mourner_55 : decode cX11_mourner 55 = .ok (.iconst (-1), 1) := by decide +kernel
theorem dX11_mourner_56 : decode cX11_mourner 56 = .ok (.ireturn, 1) := by decide +kernel
theorem dX11_mourner_57 : decode cX11_mourner 57 = .ok (.aload_n 0, 1) := by decide +kernel
theorem dX11_mourner_58 : decode cX11_mourner 58 = .ok (.getfield 69, 3) := by decide +kernel
theorem dX11_mourner_61 : decode cX11_mourner 61 = .ok (.invokevirtual 91, 3) := by decide +kernel
theorem dX11_mourner_64 : decode cX11_mourner 64 = .ok (.aload_n 0, 1) := by decide +kernel
theorem dX11_mourner_65 : decode cX11_mourner 65 = .ok (.getfield 10, 3) := by decide +kernel
theorem dX11_mourner_68 : decode cX11_mourner 68 = .ok (.getfield 112, 3) := by decide +kernel
theorem dX11_mourner_71 : decode cX11_mourner 71 = .ok (.iload_n 1, 1) := by decide +kernel
theorem dX11_mourner_72 : decode cX11_mourner 72 = .ok (.iload_n 2, 1) := by decide +kernel
theorem dX11_mourner_73 : decode cX11_mourner 73 = .ok (.iload_n 3, 1) := by decide +kernel
theorem dX11_mourner_74 : decode cX11_mourner 74 = .ok (.iconst 0, 1) := by decide +kernel
theorem dX11_mourner_75 : decode cX11_mourner 75 = .ok (.iconst 0, 1) := by decide +kernel
theorem dX11_mourner_76 : decode cX11_mourner 76 = .ok (.invokevirtual 105, 3) := by decide +kernel
theorem dX11_mourner_79 : decode cX11_mourner 79 = .ok (.ireturn, 1) := by decide +kernel
theorem dX11_set_0 : decode cX11_set 0 = .ok (.aload_n 0, 1) := by decide +kernel
theorem dX11_set_1 : decode cX11_set 1 = .ok (.getfield 10, 3) := by decide +kernel
theorem dX11_set_4 : decode cX11_set 4 = .ok (.iload_n 1, 1) := by decide +kernel
theorem dX11_set_5 : decode cX11_set 5 = .ok (.iload_n 2, 1) := by decide +kernel
theorem dX11_set_6 : decode cX11_set 6 = .ok (.iload_n 3, 1) := by decide +kernel
theorem dX11_set_7 : decode cX11_set 7 = .ok (.invokevirtual 115, 3) := by decide +kernel
theorem dX11_set_10 : decode cX11_set 10 = .ok (.ifCond .ne 5, 3) := by decide +kernel
theorem dX11_set_13 : decode cX11_set 13 = .ok (.iconst 0, 1) := by decide +kernel
theorem dX11_set_14 : decode cX11_set 14 = .ok (.ireturn, 1) := by decide +kernel
theorem dX11_set_15 : decode cX11_set 15 = .ok (.aload_n 0, 1) := by decide +kernel
theorem dX11_set_16 : decode cX11_set 16 = .ok (.getfield 69, 3) := by decide +kernel
theorem dX11_set_19 : decode cX11_set 19 = .ok (.invokevirtual 91, 3) := by decide +kernel
theorem dX11_set_22 : decode cX11_set 22 = .ok (.aload_n 0, 1) := by decide +kernel
theorem dX11_set_23 : decode cX11_set 23 = .ok (.getfield 10, 3) := by decide +kernel
theorem dX11_set_26 : decode cX11_set 26 = .ok (.iload_n 1, 1) := by decide +kernel
theorem dX11_set_27 : decode cX11_set 27 = .ok (.iload_n 2, 1) := by decide +kernel
theorem dX11_set_28 : decode cX11_set 28 = .ok (.iload_n 3, 1) := by decide +kernel
theorem dX11_set_29 : decode cX11_set 29 = .ok (.invokevirtual 118, 3) := by decide +kernel
theorem dX11_set_32 : decode cX11_set 32 = .ok (.iconst 1, 1) := by decide +kernel
theorem dX11_set_33 : decode cX11_set 33 = .ok (.ireturn, 1) := by decide +kernel
theorem dX11_act_0 : decode cX11_act 0 = .ok (.aload_n 0, 1) := by decide +kernel
theorem dX11_act_1 : decode cX11_act 1 = .ok (.getfield 56, 3) := by decide +kernel
theorem dX11_act_4 : decode cX11_act 4 = .ok (.iload_n 1, 1) := by decide +kernel
theorem dX11_act_5 : decode cX11_act 5 = .ok (.iload_n 2, 1) := by decide +kernel
theorem dX11_act_6 : decode cX11_act 6 = .ok (.iload_n 3, 1) := by decide +kernel
theorem dX11_act_7 : decode cX11_act 7 = .ok (.invokevirtual 122, 3) := by decide +kernel
theorem dX11_act_10 : decode cX11_act 10 = .ok (.ifCond .ne 5, 3) := by decide +kernel
theorem dX11_act_13 : decode cX11_act 13 = .ok (.iconst 0, 1) := by decide +kernel
theorem dX11_act_14 : decode cX11_act 14 = .ok (.ireturn, 1) := by decide +kernel
theorem dX11_act_15 : decode cX11_act 15 = .ok (.aload_n 0, 1) := by decide +kernel
theorem dX11_act_16 : decode cX11_act 16 = .ok (.getfield 69, 3) := by decide +kernel
theorem dX11_act_19 : decode cX11_act 19 = .ok (.aload_n 0, 1) := by decide +kernel
theorem dX11_act_20 : decode cX11_act 20 = .ok (.getfield 10, 3) := by decide +kernel
theorem dX11_act_23 : decode cX11_act 23 = .ok (.aload_n 0, 1) := by decide +kernel
theorem dX11_act_24 : decode cX11_act 24 = .ok (.getfield 21, 3) := by decide +kernel
theorem dX11_act_27 : decode cX11_act 27 = .ok (.getfield 125, 3) := by decide +kernel
theorem dX11_act_30 : decode cX11_act 30 = .ok (.invokevirtual 128, 3) := by decide +kernel
theorem dX11_act_33 : decode cX11_act 33 = .ok (.aload_n 0, 1) := by decide +kernel
theorem dX11_act_34 : decode cX11_act 34 = .ok (.getfield 56, 3) := by decide +kernel
theorem dX11_act_37 : decode cX11_act 37 = .ok (.iload_n 1, 1) := by decide +kernel
theorem dX11_act_38 : decode cX11_act 38 = .ok (.iload_n 2, 1) := by decide +kernel
theorem dX11_act_39 : decode cX11_act 39 = .ok (.iload_n 3, 1) := by decide +kernel
theorem dX11_act_40 : decode cX11_act 40 = .ok (.invokevirtual 132, 3) := by decide +kernel
theorem dX11_act_43 : decode cX11_act 43 = .ok (.iconst 1, 1) := by decide +kernel
theorem dX11_act_44 : decode cX11_act 44 = .ok (.ireturn, 1) := by decide +kernel
theorem dX11_minutes_0 : decode cX11_minutes 0 = .ok (.iload_n 1, 1) := by decide +kernel
theorem dX11_minutes_1 : decode cX11_minutes 1 = .ok (.iconst 1, 1) := by decide +kernel
theorem dX11_minutes_2 : decode cX11_minutes 2 = .ok (.bipush 60, 2) := by decide +kernel
theorem dX11_minutes_4 : decode cX11_minutes 4 = .ok (.invokestatic 94, 3) := by decide +kernel
theorem dX11_minutes_7 : decode cX11_minutes 7 = .ok (.ifCond .eq 18, 3) := by decide +kernel
theorem dX11_minutes_10 : decode cX11_minutes 10 = .ok (.aload_n 0, 1) := by decide +kernel
theorem dX11_minutes_11 : decode cX11_minutes 11 = .ok (.getfield 10, 3) := by decide +kernel
theorem dX11_minutes_14 : decode cX11_minutes 14 = .ok (.getfield 135, 3) := by decide +kernel
theorem dX11_minutes_17 : decode cX11_minutes 17 = .ok (.iload_n 1, 1) := by decide +kernel
theorem dX11_minutes_18 : decode cX11_minutes 18 = .ok (.iadd, 1) := by decide +kernel
theorem dX11_minutes_19 : decode cX11_minutes 19 = .ok (.sipush 9999, 3) := by decide +kernel
theorem dX11_minutes_22 : decode cX11_minutes 22 = .ok (.if_icmp .le 5, 3) := by decide +kernel
theorem dX11_minutes_25 : decode cX11_minutes 25 = .ok (.iconst (-1), 1) := by decide +kernel
theorem dX11_minutes_26 : decode cX11_minutes 26 = .ok (.ireturn, 1) := by decide +kernel
theorem dX11_minutes_27 : decode cX11_minutes 27 = .ok (.aload_n 0, 1) := by decide +kernel
theorem dX11_minutes_28 : decode cX11_minutes 28 = .ok (.getfield 10, 3) := by decide +kernel
theorem dX11_minutes_31 : decode cX11_minutes 31 = .ok (.getfield 112, 3) := by decide +kernel
theorem dX11_minutes_34 : decode cX11_minutes 34 = .ok (.iconst 4, 1) := by decide +kernel
theorem dX11_minutes_35 : decode cX11_minutes 35 = .ok (.invokevirtual 138, 3) := by decide +kernel
theorem dX11_minutes_38 : decode cX11_minutes 38 = .ok (.istore_n 2, 1) := by decide +kernel
theorem dX11_minutes_39 : decode cX11_minutes 39 = .ok (.iconst 0, 1) := by decide +kernel
theorem dX11_minutes_40 : decode cX11_minutes 40 = .ok (.istore_n 3, 1) := by decide +kernel
theorem dX11_minutes_41 : decode cX11_minutes 41 = .ok (.iload_n 3, 1) := by decide +kernel
theorem dX11_minutes_42 : decode cX11_minutes 42 = .ok (.iload_n 1, 1) := by decide +kernel
theorem dX11_minutes_43 : decode cX11_minutes 43 = .ok (.if_icmp .ge 34, 3) := by decide +kernel
theorem dX11_minutes_46 : decode cX11_minutes 46 = .ok (.aload_n 0, 1) := by decide +kernel
theorem dX11_minutes_47 : decode cX11_minutes 47 = .ok (.getfield 69, 3) := by decide +kernel
theorem dX11_minutes_50 : decode cX11_minutes 50 = .ok (.aload_n 0, 1) := by decide +kernel
theorem dX11_minutes_51 : decode cX11_minutes 51 = .ok (.getfield 10, 3) := by decide +kernel
theorem dX11_minutes_54 : decode cX11_minutes 54 = .ok (.aload_n 0, 1) := by decide +kernel
theorem dX11_minutes_55 : decode cX11_minutes 55 = .ok (.getfield 21, 3) := by decide +kernel
theorem dX11_minutes_58 : decode cX11_minutes 58 = .ok (.getfield 125, 3) := by decide +kernel
theorem dX11_minutes_61 : decode cX11_minutes 61 = .ok (.invokevirtual 128, 3) := by decide +kernel
theorem dX11_minutes_64 : decode cX11_minutes 64 = .ok (.aload_n 0, 1) := by decide +kernel
theorem dX11_minutes_65 : decode cX11_minutes 65 = .ok (.getfield 56, 3) := by decide +kernel
theorem dX11_minutes_68 : decode cX11_minutes 68 = .ok (.invokevirtual 142, 3) := by decide +kernel
theorem dX11_minutes_71 : decode cX11_minutes 71 = .ok (.iinc 3 1, 3) := by decide +kernel
theorem dX11_minutes_74 : decode cX11_minutes 74 = .ok (.goto (-33), 3) := by decide +kernel
theorem dX11_minutes_77 : decode cX11_minutes 77 = .ok (.aload_n 0, 1) := by decide +kernel
theorem dX11_minutes_78 : decode cX11_minutes 78 = .ok (.getfield 10, 3) := by decide +kernel
theorem dX11_minutes_81 : decode cX11_minutes 81 = .ok (.getfield 112, 3) := by decide +kernel
theorem dX11_minutes_84 : decode cX11_minutes 84 = .ok (.iconst 4, 1) := by decide +kernel
theorem dX11_minutes_85 : decode cX11_minutes 85 = .ok (.invokevirtual 138, 3) := by decide +kernel
theorem dX11_minutes_88 : decode cX11_minutes 88 = .ok (.iload_n 2, 1) := by decide +kernel
theorem dX11_minutes_89 : decode cX11_minutes 89 = .ok (.isub, 1) := by decide +kernel
theorem dX11_minutes_90 : decode cX11_minutes 90 = .ok (.ireturn, 1) := by decide +kernel
theorem dX11_feed_0 : decode cX11_feed 0 = .ok (.aload_n 0, 1) := by decide +kernel
theorem dX11_feed_1 : decode cX11_feed 1 = .ok (.getfield 39, 3) := by decide +kernel
theorem dX11_feed_4 : decode cX11_feed 4 = .ok (.getfield 125, 3) := by decide +kernel
theorem dX11_feed_7 : decode cX11_feed 7 = .ok (.bipush 20, 2) := by decide +kernel
theorem dX11_feed_9 : decode cX11_feed 9 = .ok (.iadd, 1) := by decide +kernel
theorem dX11_feed_10 : decode cX11_feed 10 = .ok (.sipush 400, 3) := by decide +kernel
theorem dX11_feed_13 : decode cX11_feed 13 = .ok (.if_icmp .le 5, 3) := by decide +kernel
theorem dX11_feed_16 : decode cX11_feed 16 = .ok (.iconst (-1), 1) := by decide +kernel
theorem dX11_feed_17 : decode cX11_feed 17 = .ok (.ireturn, 1) := by decide +kernel
theorem dX11_feed_18 : decode cX11_feed 18 = .ok (.aload_n 0, 1) := by decide +kernel
theorem dX11_feed_19 : decode cX11_feed 19 = .ok (.iload_n 1, 1) := by decide +kernel
theorem dX11_feed_20 : decode cX11_feed 20 = .ok (.invokevirtual 145, 3) := by decide +kernel
theorem dX11_feed_23 : decode cX11_feed 23 = .ok (.aload_n 0, 1) := by decide +kernel
theorem dX11_feed_24 : decode cX11_feed 24 = .ok (.iload_n 2, 1) := by decide +kernel
theorem dX11_feed_25 : decode cX11_feed 25 = .ok (.invokevirtual 145, 3) := by decide +kernel
theorem dX11_feed_28 : decode cX11_feed 28 = .ok (.aload_n 0, 1) := by decide +kernel
theorem dX11_feed_29 : decode cX11_feed 29 = .ok (.iload_n 3, 1) := by decide +kernel
theorem dX11_feed_30 : decode cX11_feed 30 = .ok (.invokevirtual 145, 3) := by decide +kernel
theorem dX11_feed_33 : decode cX11_feed 33 = .ok (.aload_n 0, 1) := by decide +kernel
theorem dX11_feed_34 : decode cX11_feed 34 = .ok (.iload 4, 2) := by decide +kernel
theorem dX11_feed_36 : decode cX11_feed 36 = .ok (.invokevirtual 145, 3) := by decide +kernel
theorem dX11_feed_39 : decode cX11_feed 39 = .ok (.aload_n 0, 1) := by decide +kernel
theorem dX11_feed_40 : decode cX11_feed 40 = .ok (.iload 5, 2) := by decide +kernel
theorem dX11_feed_42 : decode cX11_feed 42 = .ok (.invokevirtual 145, 3) := by decide +kernel
theorem dX11_feed_45 : decode cX11_feed 45 = .ok (.aload_n 0, 1) := by decide +kernel
theorem dX11_feed_46 : decode cX11_feed 46 = .ok (.getfield 39, 3) := by decide +kernel
theorem dX11_feed_49 : decode cX11_feed 49 = .ok (.getfield 125, 3) := by decide +kernel
theorem dX11_feed_52 : decode cX11_feed 52 = .ok (.ireturn, 1) := by decide +kernel
theorem dX11_addBytes_0 : decode cX11_addBytes 0 = .ok (.bipush 24, 2) := by decide +kernel
theorem dX11_addBytes_2 : decode cX11_addBytes 2 = .ok (.istore_n 2, 1) := by decide +kernel
theorem dX11_addBytes_3 : decode cX11_addBytes 3 = .ok (.iload_n 2, 1) := by decide +kernel
theorem dX11_addBytes_4 : decode cX11_addBytes 4 = .ok (.ifCond .lt 28, 3) := by decide +kernel
theorem dX11_addBytes_7 : decode cX11_addBytes 7 = .ok (.aload_n 0, 1) := by decide +kernel
theorem dX11_addBytes_8 : decode cX11_addBytes 8 = .ok (.getfield 39, 3) := by decide +kernel
theorem dX11_addBytes_11 : decode cX11_addBytes 11 = .ok (.iload_n 1, 1) := by decide +kernel
theorem dX11_addBytes_12 : decode cX11_addBytes 12 = .ok (.iload_n 2, 1) := by decide +kernel
theorem dX11_addBytes_13 : decode cX11_addBytes 13 = .ok (.iushr, 1) := by decide +kernel
theorem dX11_addBytes_14 : decode cX11_addBytes 14 = .ok (.sipush 255, 3) := by decide +kernel
theorem dX11_addBytes_17 : decode cX11_addBytes 17 = .ok (.iand, 1) := by decide +kernel
theorem dX11_addBytes_18 : decode cX11_addBytes 18 = .ok (.iconst 0, 1) := by decide +kernel
theorem dX11_addBytes_19 : decode cX11_addBytes 19 = .ok (.iconst 0, 1) := by decide +kernel
theorem dX11_addBytes_20 : decode cX11_addBytes 20 = .ok (.iconst 0, 1) := by decide +kernel
theorem dX11_addBytes_21 : decode cX11_addBytes 21 = .ok (.iconst 0, 1) := by decide +kernel
theorem dX11_addBytes_22 : decode cX11_addBytes 22 = .ok (.invokevirtual 105, 3) := by decide +kernel
theorem dX11_addBytes_25 : decode cX11_addBytes 25 = .ok (.pop, 1) := by decide +kernel
theorem dX11_addBytes_26 : decode cX11_addBytes 26 = .ok (.iinc 2 (-8), 3) := by decide +kernel
theorem dX11_addBytes_29 : decode cX11_addBytes 29 = .ok (.goto (-26), 3) := by decide +kernel
theorem dX11_addBytes_32 : decode cX11_addBytes 32 = .ok (.return_, 1) := by decide +kernel
theorem dX11_end_0 : decode cX11_end 0 = .ok (.iload_n 1, 1) := by decide +kernel
theorem dX11_end_1 : decode cX11_end 1 = .ok (.iconst 0, 1) := by decide +kernel
theorem dX11_end_2 : decode cX11_end 2 = .ok (.aload_n 0, 1) := by decide +kernel
theorem dX11_end_3 : decode cX11_end 3 = .ok (.getfield 39, 3) := by decide +kernel
theorem dX11_end_6 : decode cX11_end 6 = .ok (.getfield 125, 3) := by decide +kernel
theorem dX11_end_9 : decode cX11_end 9 = .ok (.invokestatic 94, 3) := by decide +kernel
theorem dX11_end_12 : decode cX11_end 12 = .ok (.ifCond .ne 5, 3) := by decide +kernel
theorem dX11_end_15 : decode cX11_end 15 = .ok (.iconst 0, 1) := by decide +kernel
theorem dX11_end_16 : decode cX11_end 16 = .ok (.ireturn, 1) := by decide +kernel
theorem dX11_end_17 : decode cX11_end 17 = .ok (.aload_n 0, 1) := by decide +kernel
theorem dX11_end_18 : decode cX11_end 18 = .ok (.getfield 39, 3) := by decide +kernel
theorem dX11_end_21 : decode cX11_end 21 = .ok (.iload_n 1, 1) := by decide +kernel
theorem dX11_end_22 : decode cX11_end 22 = .ok (.invokevirtual 149, 3) := by decide +kernel
theorem dX11_end_25 : decode cX11_end 25 = .ok (.pop, 1) := by decide +kernel
theorem dX11_end_26 : decode cX11_end 26 = .ok (.iconst 1, 1) := by decide +kernel
theorem dX11_end_27 : decode cX11_end 27 = .ok (.ireturn, 1) := by decide +kernel
theorem dX11_text_0 : decode cX11_text 0 = .ok (.aload_n 0, 1) := by decide +kernel
theorem dX11_text_1 : decode cX11_text 1 = .ok (.getfield 47, 3) := by decide +kernel
theorem dX11_text_4 : decode cX11_text 4 = .ok (.iload_n 1, 1) := by decide +kernel
theorem dX11_text_5 : decode cX11_text 5 = .ok (.invokevirtual 152, 3) := by decide +kernel
theorem dX11_text_8 : decode cX11_text 8 = .ok (.istore_n 2, 1) := by decide +kernel
theorem dX11_text_9 : decode cX11_text 9 = .ok (.aload_n 0, 1) := by decide +kernel
theorem dX11_text_10 : decode cX11_text 10 = .ok (.getfield 39, 3) := by decide +kernel
theorem dX11_text_13 : decode cX11_text 13 = .ok (.iconst 0, 1) := by decide +kernel
theorem dX11_text_14 : decode cX11_text 14 = .ok (.invokevirtual 149, 3) := by decide +kernel
theorem dX11_text_17 : decode cX11_text 17 = .ok (.pop, 1) := by decide +kernel
theorem dX11_text_18 : decode cX11_text 18 = .ok (.iload_n 2, 1) := by decide +kernel
theorem dX11_text_19 : decode cX11_text 19 = .ok (.iconst (-1), 1) := by decide +kernel
theorem dX11_text_20 : decode cX11_text 20 = .ok (.if_icmp .ne 5, 3) := by decide +kernel
theorem dX11_text_23 : decode cX11_text 23 = .ok (.iconst (-1), 1) := by decide +kernel
theorem dX11_text_24 : decode cX11_text 24 = .ok (.ireturn, 1) := by decide +kernel
theorem dX11_text_25 : decode cX11_text 25 = .ok (.aload_n 0, 1) := by decide +kernel
theorem dX11_text_26 : decode cX11_text 26 = .ok (.getfield 28, 3) := by decide +kernel
theorem dX11_text_29 : decode cX11_text 29 = .ok (.iload_n 1, 1) := by decide +kernel
theorem dX11_text_30 : decode cX11_text 30 = .ok (.aload_n 0, 1) := by decide +kernel
theorem dX11_text_31 : decode cX11_text 31 = .ok (.getfield 47, 3) := by decide +kernel
theorem dX11_text_34 : decode cX11_text 34 = .ok (.getfield 155, 3) := by decide +kernel
theorem dX11_text_37 : decode cX11_text 37 = .ok (.invokevirtual 158, 3) := by decide +kernel
theorem dX11_text_40 : decode cX11_text 40 = .ok (.iload_n 1, 1) := by decide +kernel
theorem dX11_text_41 : decode cX11_text 41 = .ok (.iconst 1, 1) := by decide +kernel
theorem dX11_text_42 : decode cX11_text 42 = .ok (.if_icmp .eq 8, 3) := by decide +kernel
theorem dX11_text_45 : decode cX11_text 45 = .ok (.iload_n 1, 1) := by decide +kernel
theorem dX11_text_46 : decode cX11_text 46 = .ok (.iconst 2, 1) := by decide +kernel
theorem dX11_text_47 : decode cX11_text 47 = .ok (.if_icmp .ne 10, 3) := by decide +kernel
theorem dX11_text_50 : decode cX11_text 50 = .ok (.aload_n 0, 1) := by decide +kernel
theorem dX11_text_51 : decode cX11_text 51 = .ok (.getfield 69, 3) := by decide +kernel
theorem dX11_text_54 : decode cX11_text 54 = .ok (.invokevirtual 91, 3) := by decide +kernel
theorem dX11_text_57 : decode cX11_text 57 = .ok (.iload_n 2, 1) := by decide +kernel
theorem dX11_text_58 : decode cX11_text 58 = .ok (.ireturn, 1) := by decide +kernel
theorem dX11_fault_0 : decode cX11_fault 0 = .ok (.iload_n 1, 1) := by decide +kernel
theorem dX11_fault_1 : decode cX11_fault 1 = .ok (.ifCond .ne 11, 3) := by decide +kernel
theorem dX11_fault_4 : decode cX11_fault 4 = .ok (.aload_n 0, 1) := by decide +kernel
theorem dX11_fault_5 : decode cX11_fault 5 = .ok (.getfield 47, 3) := by decide +kernel
theorem dX11_fault_8 : decode cX11_fault 8 = .ok (.getfield 162, 3) := by decide +kernel
theorem dX11_fault_11 : decode cX11_fault 11 = .ok (.ireturn, 1) := by decide +kernel
theorem dX11_fault_12 : decode cX11_fault 12 = .ok (.iload_n 1, 1) := by decide +kernel
theorem dX11_fault_13 : decode cX11_fault 13 = .ok (.iconst 1, 1) := by decide +kernel
theorem dX11_fault_14 : decode cX11_fault 14 = .ok (.if_icmp .ne 13, 3) := by decide +kernel
theorem dX11_fault_17 : decode cX11_fault 17 = .ok (.aload_n 0, 1) := by decide +kernel
theorem dX11_fault_18 : decode cX11_fault 18 = .ok (.getfield 47, 3) := by decide +kernel
theorem dX11_fault_21 : decode cX11_fault 21 = .ok (.getfield 165, 3) := by decide +kernel
theorem dX11_fault_24 : decode cX11_fault 24 = .ok (.goto 4, 3) := by decide +kernel
theorem dX11_fault_27 : decode cX11_fault 27 = .ok (.iconst (-1), 1) := by decide +kernel
theorem dX11_fault_28 : decode cX11_fault 28 = .ok (.ireturn, 1) := by decide +kernel
theorem dX11_of_0 : decode cX11_of 0 = .ok (.aload_n 0, 1) := by decide +kernel
theorem dX11_of_1 : decode cX11_of 1 = .ok (.getfield 10, 3) := by decide +kernel
theorem dX11_of_4 : decode cX11_of 4 = .ok (.getfield 98, 3) := by decide +kernel
theorem dX11_of_7 : decode cX11_of 7 = .ok (.iload_n 1, 1) := by decide +kernel
theorem dX11_of_8 : decode cX11_of 8 = .ok (.invokevirtual 168, 3) := by decide +kernel
theorem dX11_of_11 : decode cX11_of 11 = .ok (.ifCond .eq 13, 3) := by decide +kernel
theorem dX11_of_14 : decode cX11_of 14 = .ok (.iload_n 2, 1) := by decide +kernel
theorem dX11_of_15 : decode cX11_of 15 = .ok (.iconst 0, 1) := by decide +kernel
theorem dX11_of_16 : decode cX11_of 16 = .ok (.bipush 7, 2) := by decide +kernel
theorem dX11_of_18 : decode cX11_of 18 = .ok (.invokestatic 94, 3) := by decide +kernel
theorem dX11_of_21 : decode cX11_of 21 = .ok (.ifCond .ne 5, 3) := by decide +kernel
theorem dX11_of_24 : decode cX11_of 24 = .ok (.iconst (-1), 1) := by decide +kernel
theorem dX11_of_25 : decode cX11_of 25 = .ok (.ireturn, 1) := by decide +kernel
theorem dX11_of_26 : decode cX11_of 26 = .ok (.iload_n 2, 1) := by decide +kernel
theorem dX11_of_27 : decode cX11_of 27 = .ok (.iconst 3, 1) := by decide +kernel
theorem dX11_of_28 : decode cX11_of 28 = .ok (.if_icmp .gt 16, 3) := by decide +kernel
theorem dX11_of_31 : decode cX11_of 31 = .ok (.aload_n 0, 1) := by decide +kernel
theorem dX11_of_32 : decode cX11_of 32 = .ok (.getfield 10, 3) := by decide +kernel
theorem dX11_of_35 : decode cX11_of 35 = .ok (.getfield 98, 3) := by decide +kernel
theorem dX11_of_38 : decode cX11_of 38 = .ok (.iload_n 1, 1) := by decide +kernel
theorem dX11_of_39 : decode cX11_of 39 = .ok (.iload_n 2, 1) := by decide +kernel
theorem dX11_of_40 : decode cX11_of 40 = .ok (.invokevirtual 172, 3) := by decide +kernel
theorem dX11_of_43 : decode cX11_of 43 = .ok (.ireturn, 1) := by decide +kernel
theorem dX11_of_44 : decode cX11_of 44 = .ok (.iload_n 2, 1) := by decide +kernel
theorem dX11_of_45 : decode cX11_of 45 = .ok (.bipush 7, 2) := by decide +kernel
theorem dX11_of_47 : decode cX11_of 47 = .ok (.if_icmp .ne 14, 3) := by decide +kernel
theorem dX11_of_50 : decode cX11_of 50 = .ok (.aload_n 0, 1) := by decide +kernel
theorem dX11_of_51 : decode cX11_of 51 = .ok (.getfield 28, 3) := by decide +kernel
theorem dX11_of_54 : decode cX11_of 54 = .ok (.iload_n 1, 1) := by decide +kernel
theorem dX11_of_55 : decode cX11_of 55 = .ok (.invokevirtual 176, 3) := by decide +kernel
theorem dX11_of_58 : decode cX11_of 58 = .ok (.goto 14, 3) := by decide +kernel
theorem dX11_of_61 : decode cX11_of 61 = .ok (.aload_n 0, 1) := by decide +kernel
theorem dX11_of_62 : decode cX11_of 62 = .ok (.getfield 56, 3) := by decide +kernel
theorem dX11_of_65 : decode cX11_of 65 = .ok (.iload_n 2, 1) := by decide +kernel
theorem dX11_of_66 : decode cX11_of 66 = .ok (.iconst 4, 1) := by decide +kernel
theorem dX11_of_67 : decode cX11_of 67 = .ok (.isub, 1) := by decide +kernel
theorem dX11_of_68 : decode cX11_of 68 = .ok (.iload_n 1, 1) := by decide +kernel
theorem dX11_of_69 : decode cX11_of 69 = .ok (.invokevirtual 179, 3) := by decide +kernel
theorem dX11_of_72 : decode cX11_of 72 = .ok (.ireturn, 1) := by decide +kernel
theorem dX11_who_0 : decode cX11_who 0 = .ok (.aload_n 0, 1) := by decide +kernel
theorem dX11_who_1 : decode cX11_who 1 = .ok (.getfield 10, 3) := by decide +kernel
theorem dX11_who_4 : decode cX11_who 4 = .ok (.getfield 109, 3) := by decide +kernel
theorem dX11_who_7 : decode cX11_who 7 = .ok (.iload_n 1, 1) := by decide +kernel
theorem dX11_who_8 : decode cX11_who 8 = .ok (.invokevirtual 168, 3) := by decide +kernel
theorem dX11_who_11 : decode cX11_who 11 = .ok (.ifCond .eq 12, 3) := by decide +kernel
theorem dX11_who_14 : decode cX11_who 14 = .ok (.iload_n 2, 1) := by decide +kernel
theorem dX11_who_15 : decode cX11_who 15 = .ok (.iconst 0, 1) := by decide +kernel
theorem dX11_who_16 : decode cX11_who 16 = .ok (.iconst 3, 1) := by decide +kernel
theorem dX11_who_17 : decode cX11_who 17 = .ok (.invokestatic 94, 3) := by decide +kernel
theorem dX11_who_20 : decode cX11_who 20 = .ok (.ifCond .ne 5, 3) := by decide +kernel
theorem dX11_who_23 : decode cX11_who 23 = .ok (.iconst (-1), 1) := by decide +kernel
theorem dX11_who_24 : decode cX11_who 24 = .ok (.ireturn, 1) := by decide +kernel
theorem dX11_who_25 : decode cX11_who 25 = .ok (.aload_n 0, 1) := by decide +kernel
theorem dX11_who_26 : decode cX11_who 26 = .ok (.getfield 10, 3) := by decide +kernel
theorem dX11_who_29 : decode cX11_who 29 = .ok (.getfield 109, 3) := by decide +kernel
theorem dX11_who_32 : decode cX11_who 32 = .ok (.iload_n 1, 1) := by decide +kernel
theorem dX11_who_33 : decode cX11_who 33 = .ok (.iload_n 2, 1) := by decide +kernel
theorem dX11_who_34 : decode cX11_who 34 = .ok (.invokevirtual 172, 3) := by decide +kernel
theorem dX11_who_37 : decode cX11_who 37 = .ok (.ireturn, 1) := by decide +kernel
theorem dX11_weeper_0 : decode cX11_weeper 0 = .ok (.aload_n 0, 1) := by decide +kernel
theorem dX11_weeper_1 : decode cX11_weeper 1 = .ok (.getfield 10, 3) := by decide +kernel
theorem dX11_weeper_4 : decode cX11_weeper 4 = .ok (.getfield 112, 3) := by decide +kernel
theorem dX11_weeper_7 : decode cX11_weeper 7 = .ok (.iload_n 1, 1) := by decide +kernel
theorem dX11_weeper_8 : decode cX11_weeper 8 = .ok (.invokevirtual 168, 3) := by decide +kernel
theorem dX11_weeper_11 : decode cX11_weeper 11 = .ok (.ifCond .eq 12, 3) := by decide +kernel
theorem dX11_weeper_14 : decode cX11_weeper 14 = .ok (.iload_n 2, 1) := by decide +kernel
theorem dX11_weeper_15 : decode cX11_weeper 15 = .ok (.iconst 0, 1) := by decide +kernel
theorem dX11_weeper_16 : decode cX11_weeper 16 = .ok (.iconst 4, 1) := by decide +kernel
theorem dX11_weeper_17 : decode cX11_weeper 17 = .ok (.invokestatic 94, 3) := by decide +kernel
theorem dX11_weeper_20 : decode cX11_weeper 20 = .ok (.ifCond .ne 5, 3) := by decide +kernel
theorem dX11_weeper_23 : decode cX11_weeper 23 = .ok (.iconst (-1), 1) := by decide +kernel
theorem dX11_weeper_24 : decode cX11_weeper 24 = .ok (.ireturn, 1) := by decide +kernel
theorem dX11_weeper_25 : decode cX11_weeper 25 = .ok (.aload_n 0, 1) := by decide +kernel
theorem dX11_weeper_26 : decode cX11_weeper 26 = .ok (.getfield 10, 3) := by decide +kernel
theorem dX11_weeper_29 : decode cX11_weeper 29 = .ok (.getfield 112, 3) := by decide +kernel
theorem dX11_weeper_32 : decode cX11_weeper 32 = .ok (.iload_n 1, 1) := by decide +kernel
theorem dX11_weeper_33 : decode cX11_weeper 33 = .ok (.iload_n 2, 1) := by decide +kernel
theorem dX11_weeper_34 : decode cX11_weeper 34 = .ok (.invokevirtual 172, 3) := by decide +kernel
theorem dX11_weeper_37 : decode cX11_weeper 37 = .ok (.ireturn, 1) := by decide +kernel
theorem dX11_book_0 : decode cX11_book 0 = .ok (.aload_n 0, 1) := by decide +kernel
theorem dX11_book_1 : decode cX11_book 1 = .ok (.getfield 21, 3) := by decide +kernel
theorem dX11_book_4 : decode cX11_book 4 = .ok (.iload_n 1, 1) := by decide +kernel
theorem dX11_book_5 : decode cX11_book 5 = .ok (.invokevirtual 168, 3) := by decide +kernel
theorem dX11_book_8 : decode cX11_book 8 = .ok (.ifCond .eq 12, 3) := by decide +kernel
theorem dX11_book_11 : decode cX11_book 11 = .ok (.iload_n 2, 1) := by decide +kernel
theorem dX11_book_12 : decode cX11_book 12 = .ok (.iconst 0, 1) := by decide +kernel
theorem dX11_book_13 : decode cX11_book 13 = .ok (.iconst 3, 1) := by decide +kernel
theorem dX11_book_14 : decode cX11_book 14 = .ok (.invokestatic 94, 3) := by decide +kernel
theorem dX11_book_17 : decode cX11_book 17 = .ok (.ifCond .ne 5, 3) := by decide +kernel
theorem dX11_book_20 : decode cX11_book 20 = .ok (.iconst (-1), 1) := by decide +kernel
theorem dX11_book_21 : decode cX11_book 21 = .ok (.ireturn, 1) := by decide +kernel
theorem dX11_book_22 : decode cX11_book 22 = .ok (.aload_n 0, 1) := by decide +kernel
theorem dX11_book_23 : decode cX11_book 23 = .ok (.getfield 21, 3) := by decide +kernel
theorem dX11_book_26 : decode cX11_book 26 = .ok (.iload_n 1, 1) := by decide +kernel
theorem dX11_book_27 : decode cX11_book 27 = .ok (.iload_n 2, 1) := by decide +kernel
theorem dX11_book_28 : decode cX11_book 28 = .ok (.invokevirtual 172, 3) := by decide +kernel
theorem dX11_book_31 : decode cX11_book 31 = .ok (.ireturn, 1) := by decide +kernel
theorem dX11_goes_0 : decode cX11_goes 0 = .ok (.iload_n 1, 1) := by decide +kernel
theorem dX11_goes_1 : decode cX11_goes 1 = .ok (.iconst 1, 1) := by decide +kernel
theorem dX11_goes_2 : decode cX11_goes 2 = .ok (.bipush 60, 2) := by decide +kernel
theorem dX11_goes_4 : decode cX11_goes 4 = .ok (.invokestatic 94, 3) := by decide +kernel
theorem dX11_goes_7 : decode cX11_goes 7 = .ok (.ifCond .eq 12, 3) := by decide +kernel
theorem dX11_goes_10 : decode cX11_goes 10 = .ok (.iload_n 2, 1) := by decide +kernel
theorem dX11_goes_11 : decode cX11_goes 11 = .ok (.iconst 0, 1) := by decide +kernel
theorem dX11_goes_12 : decode cX11_goes 12 = .ok (.iconst 3, 1) := by decide +kernel
theorem dX11_goes_13 : decode cX11_goes 13 = .ok (.invokestatic 94, 3) := by decide +kernel
theorem dX11_goes_16 : decode cX11_goes 16 = .ok (.ifCond .ne 5, 3) := by decide +kernel
theorem dX11_goes_19 : decode cX11_goes 19 = .ok (.iconst (-1), 1) := by decide +kernel
theorem dX11_goes_20 : decode cX11_goes 20 = .ok (.ireturn, 1) := by decide +kernel
theorem dX11_goes_21 : decode cX11_goes 21 = .ok (.aload_n 0, 1) := by decide +kernel
theorem dX11_goes_22 : decode cX11_goes 22 = .ok (.getfield 60, 3) := by decide +kernel
theorem dX11_goes_25 : decode cX11_goes 25 = .ok (.aload_n 0, 1) := by decide +kernel
theorem dX11_goes_26 : decode cX11_goes 26 = .ok (.getfield 10, 3) := by decide +kernel
theorem dX11_goes_29 : decode cX11_goes 29 = .ok (.invokevirtual 182, 3) := by decide +kernel
theorem dX11_goes_32 : decode cX11_goes 32 = .ok (.iconst 0, 1) := by decide +kernel
theorem dX11_goes_33 : decode cX11_goes 33 = .ok (.istore_n 3, 1) := by decide +kernel
theorem dX11_goes_34 : decode cX11_goes 34 = .ok (.iload_n 3, 1) := by decide +kernel
theorem dX11_goes_35 : decode cX11_goes 35 = .ok (.iload_n 1, 1) := by decide +kernel
theorem dX11_goes_36 : decode cX11_goes 36 = .ok (.if_icmp .ge 16, 3) := by decide +kernel
theorem dX11_goes_39 : decode cX11_goes 39 = .ok (.aload_n 0, 1) := by decide +kernel
theorem dX11_goes_40 : decode cX11_goes 40 = .ok (.getfield 63, 3) := by decide +kernel
theorem dX11_goes_43 : decode cX11_goes 43 = .ok (.invokevirtual 142, 3) := by decide +kernel
theorem dX11_goes_46 : decode cX11_goes 46 = .ok (.iinc 3 1, 3) := by decide +kernel
theorem dX11_goes_49 : decode cX11_goes 49 = .ok (.goto (-15), 3) := by decide +kernel
theorem dX11_goes_52 : decode cX11_goes 52 = .ok (.iload_n 2, 1) := by decide +kernel
theorem dX11_goes_53 : decode cX11_goes 53 = .ok (.ifCond .ne 15, 3) := by decide +kernel
theorem dX11_goes_56 : decode cX11_goes 56 = .ok (.aload_n 0, 1) := by decide +kernel
theorem dX11_goes_57 : decode cX11_goes 57 = .ok (.getfield 60, 3) := by decide +kernel
theorem dX11_goes_60 : decode cX11_goes 60 = .ok (.getfield 98, 3) := by decide +kernel
theorem dX11_goes_63 : decode cX11_goes 63 = .ok (.iconst 2, 1) := by decide +kernel
theorem dX11_goes_64 : decode cX11_goes 64 = .ok (.invokevirtual 138, 3) := by decide +kernel
theorem dX11_goes_67 : decode cX11_goes 67 = .ok (.ireturn, 1) := by decide +kernel
theorem dX11_goes_68 : decode cX11_goes 68 = .ok (.iload_n 2, 1) := by decide +kernel
theorem dX11_goes_69 : decode cX11_goes 69 = .ok (.iconst 1, 1) := by decide +kernel
theorem dX11_goes_70 : decode cX11_goes 70 = .ok (.if_icmp .ne 15, 3) := by decide +kernel
theorem dX11_goes_73 : decode cX11_goes 73 = .ok (.aload_n 0, 1) := by decide +kernel
theorem dX11_goes_74 : decode cX11_goes 74 = .ok (.getfield 60, 3) := by decide +kernel
theorem dX11_goes_77 : decode cX11_goes 77 = .ok (.getfield 112, 3) := by decide +kernel
theorem dX11_goes_80 : decode cX11_goes 80 = .ok (.iconst 4, 1) := by decide +kernel
theorem dX11_goes_81 : decode cX11_goes 81 = .ok (.invokevirtual 138, 3) := by decide +kernel
theorem dX11_goes_84 : decode cX11_goes 84 = .ok (.ireturn, 1) := by decide +kernel
theorem dX11_goes_85 : decode cX11_goes 85 = .ok (.iload_n 2, 1) := by decide +kernel
theorem dX11_goes_86 : decode cX11_goes 86 = .ok (.iconst 2, 1) := by decide +kernel
theorem dX11_goes_87 : decode cX11_goes 87 = .ok (.if_icmp .ne 17, 3) := by decide +kernel
theorem dX11_goes_90 : decode cX11_goes 90 = .ok (.aload_n 0, 1) := by decide +kernel
theorem dX11_goes_91 : decode cX11_goes 91 = .ok (.getfield 60, 3) := by decide +kernel
theorem dX11_goes_94 : decode cX11_goes 94 = .ok (.getfield 109, 3) := by decide +kernel
theorem dX11_goes_97 : decode cX11_goes 97 = .ok (.iconst 3, 1) := by decide +kernel
theorem dX11_goes_98 : decode cX11_goes 98 = .ok (.invokevirtual 138, 3) := by decide +kernel
theorem dX11_goes_101 : decode cX11_goes 101 = .ok (.goto 10, 3) := by decide +kernel
theorem dX11_goes_104 : decode cX11_goes 104 = .ok (.aload_n 0, 1) := by decide +kernel
theorem dX11_goes_105 : decode cX11_goes 105 = .ok (.getfield 60, 3) := by decide +kernel
theorem dX11_goes_108 : decode cX11_goes 108 = .ok (.getfield 186, 3) := by decide +kernel
theorem dX11_goes_111 : decode cX11_goes 111 = .ok (.ireturn, 1) := by decide +kernel
theorem dX11_weeps_0 : decode cX11_weeps 0 = .ok (.aload_n 0, 1) := by decide +kernel
theorem dX11_weeps_1 : decode cX11_weeps 1 = .ok (.getfield 10, 3) := by decide +kernel
theorem dX11_weeps_4 : decode cX11_weeps 4 = .ok (.getfield 112, 3) := by decide +kernel
theorem dX11_weeps_7 : decode cX11_weeps 7 = .ok (.iload_n 1, 1) := by decide +kernel
theorem dX11_weeps_8 : decode cX11_weeps 8 = .ok (.invokevirtual 168, 3) := by decide +kernel
theorem dX11_weeps_11 : decode cX11_weeps 11 = .ok (.ifCond .ne 5, 3) := by decide +kernel
theorem dX11_weeps_14 : decode cX11_weeps 14 = .ok (.iconst (-1), 1) := by decide +kernel
theorem dX11_weeps_15 : decode cX11_weeps 15 = .ok (.ireturn, 1) := by decide +kernel
theorem dX11_weeps_16 : decode cX11_weeps 16 = .ok (.aload_n 0, 1) := by decide +kernel
theorem dX11_weeps_17 : decode cX11_weeps 17 = .ok (.getfield 60, 3) := by decide +kernel
theorem dX11_weeps_20 : decode cX11_weeps 20 = .ok (.aload_n 0, 1) := by decide +kernel
theorem dX11_weeps_21 : decode cX11_weeps 21 = .ok (.getfield 10, 3) := by decide +kernel
theorem dX11_weeps_24 : decode cX11_weeps 24 = .ok (.invokevirtual 182, 3) := by decide +kernel
theorem dX11_weeps_27 : decode cX11_weeps 27 = .ok (.iconst 0, 1) := by decide +kernel
theorem dX11_weeps_28 : decode cX11_weeps 28 = .ok (.istore_n 2, 1) := by decide +kernel
theorem dX11_weeps_29 : decode cX11_weeps 29 = .ok (.iload_n 2, 1) := by decide +kernel
theorem dX11_weeps_30 : decode cX11_weeps 30 = .ok (.bipush 60, 2) := by decide +kernel
theorem dX11_weeps_32 : decode cX11_weeps 32 = .ok (.if_icmp .ge 33, 3) := by decide +kernel
theorem dX11_weeps_35 : decode cX11_weeps 35 = .ok (.aload_n 0, 1) := by decide +kernel
theorem dX11_weeps_36 : decode cX11_weeps 36 = .ok (.getfield 60, 3) := by decide +kernel
theorem dX11_weeps_39 : decode cX11_weeps 39 = .ok (.getfield 112, 3) := by decide +kernel
theorem dX11_weeps_42 : decode cX11_weeps 42 = .ok (.iload_n 1, 1) := by decide +kernel
theorem dX11_weeps_43 : decode cX11_weeps 43 = .ok (.iconst 1, 1) := by decide +kernel
theorem dX11_weeps_44 : decode cX11_weeps 44 = .ok (.invokevirtual 172, 3) := by decide +kernel
theorem dX11_weeps_47 : decode cX11_weeps 47 = .ok (.ifCond .ne 5, 3) := by decide +kernel
theorem dX11_weeps_50 : decode cX11_weeps 50 = .ok (.iload_n 2, 1) := by decide +kernel
theorem dX11_weeps_51 : decode cX11_weeps 51 = .ok (.ireturn, 1) := by decide +kernel
theorem dX11_weeps_52 : decode cX11_weeps 52 = .ok (.aload_n 0, 1) := by decide +kernel
theorem dX11_weeps_53 : decode cX11_weeps 53 = .ok (.getfield 63, 3) := by decide +kernel
theorem dX11_weeps_56 : decode cX11_weeps 56 = .ok (.invokevirtual 142, 3) := by decide +kernel
theorem dX11_weeps_59 : decode cX11_weeps 59 = .ok (.iinc 2 1, 3) := by decide +kernel
theorem dX11_weeps_62 : decode cX11_weeps 62 = .ok (.goto (-33), 3) := by decide +kernel
theorem dX11_weeps_65 : decode cX11_weeps 65 = .ok (.aload_n 0, 1) := by decide +kernel
theorem dX11_weeps_66 : decode cX11_weeps 66 = .ok (.getfield 60, 3) := by decide +kernel
theorem dX11_weeps_69 : decode cX11_weeps 69 = .ok (.getfield 112, 3) := by decide +kernel
theorem dX11_weeps_72 : decode cX11_weeps 72 = .ok (.iload_n 1, 1) := by decide +kernel
theorem dX11_weeps_73 : decode cX11_weeps 73 = .ok (.iconst 1, 1) := by decide +kernel
theorem dX11_weeps_74 : decode cX11_weeps 74 = .ok (.invokevirtual 172, 3) := by decide +kernel
theorem dX11_weeps_77 : decode cX11_weeps 77 = .ok (.ifCond .ne 8, 3) := by decide +kernel
theorem dX11_weeps_80 : decode cX11_weeps 80 = .ok (.bipush 60, 2) := by decide +kernel
theorem dX11_weeps_82 : decode cX11_weeps 82 = .ok (.goto 4, 3) := by decide +kernel
theorem dX11_weeps_85 : decode cX11_weeps 85 = .ok (.iconst (-1), 1) := by decide +kernel
theorem dX11_weeps_86 : decode cX11_weeps 86 = .ok (.ireturn, 1) := by decide +kernel
theorem dX11_claims_0 : decode cX11_claims 0 = .ok (.iload_n 1, 1) := by decide +kernel
theorem dX11_claims_1 : decode cX11_claims 1 = .ok (.iconst 0, 1) := by decide +kernel
theorem dX11_claims_2 : decode cX11_claims 2 = .ok (.bipush 19, 2) := by decide +kernel
theorem dX11_claims_4 : decode cX11_claims 4 = .ok (.invokestatic 94, 3) := by decide +kernel
theorem dX11_claims_7 : decode cX11_claims 7 = .ok (.ifCond .eq 14, 3) := by decide +kernel
theorem dX11_claims_10 : decode cX11_claims 10 = .ok (.aload_n 0, 1) := by decide +kernel
theorem dX11_claims_11 : decode cX11_claims 11 = .ok (.getfield 10, 3) := by decide +kernel
theorem dX11_claims_14 : decode cX11_claims 14 = .ok (.iload_n 1, 1) := by decide +kernel
theorem dX11_claims_15 : decode cX11_claims 15 = .ok (.invokevirtual 189, 3) := by decide +kernel
theorem dX11_claims_18 : decode cX11_claims 18 = .ok (.goto 4, 3) := by decide +kernel
theorem dX11_claims_21 : decode cX11_claims 21 = .ok (.iconst (-1), 1) := by decide +kernel
theorem dX11_claims_22 : decode cX11_claims 22 = .ok (.ireturn, 1) := by decide +kernel
theorem dX11_thread_0 : decode cX11_thread 0 = .ok (.iload_n 1, 1) := by decide +kernel
theorem dX11_thread_1 : decode cX11_thread 1 = .ok (.iconst (-1), 1) := by decide +kernel
theorem dX11_thread_2 : decode cX11_thread 2 = .ok (.if_icmp .ne 15, 3) := by decide +kernel
theorem dX11_thread_5 : decode cX11_thread 5 = .ok (.aload_n 0, 1) := by decide +kernel
theorem dX11_thread_6 : decode cX11_thread 6 = .ok (.getfield 35, 3) := by decide +kernel
theorem dX11_thread_9 : decode cX11_thread 9 = .ok (.getfield 192, 3) := by decide +kernel
theorem dX11_thread_12 : decode cX11_thread 12 = .ok (.iconst 0, 1) := by decide +kernel
theorem dX11_thread_13 : decode cX11_thread 13 = .ok (.invokevirtual 149, 3) := by decide +kernel
theorem dX11_thread_16 : decode cX11_thread 16 = .ok (.ireturn, 1) := by decide +kernel
theorem dX11_thread_17 : decode cX11_thread 17 = .ok (.iload_n 1, 1) := by decide +kernel
theorem dX11_thread_18 : decode cX11_thread 18 = .ok (.iconst 0, 1) := by decide +kernel
theorem dX11_thread_19 : decode cX11_thread 19 = .ok (.iconst 5, 1) := by decide +kernel
theorem dX11_thread_20 : decode cX11_thread 20 = .ok (.invokestatic 94, 3) := by decide +kernel
theorem dX11_thread_23 : decode cX11_thread 23 = .ok (.ifCond .eq 17, 3) := by decide +kernel
theorem dX11_thread_26 : decode cX11_thread 26 = .ok (.iload_n 2, 1) := by decide +kernel
theorem dX11_thread_27 : decode cX11_thread 27 = .ok (.iconst 0, 1) := by decide +kernel
theorem dX11_thread_28 : decode cX11_thread 28 = .ok (.iconst 5, 1) := by decide +kernel
theorem dX11_thread_29 : decode cX11_thread 29 = .ok (.invokestatic 94, 3) := by decide +kernel
theorem dX11_thread_32 : decode cX11_thread 32 = .ok (.ifCond .eq 8, 3) := by decide +kernel
theorem dX11_thread_35 : decode cX11_thread 35 = .ok (.iload_n 1, 1) := by decide +kernel
theorem dX11_thread_36 : decode cX11_thread 36 = .ok (.iload_n 2, 1) := by decide +kernel
theorem dX11_thread_37 : decode cX11_thread 37 = .ok (.if_icmp .ne 5, 3) := by decide +kernel
theorem dX11_thread_40 : decode cX11_thread 40 = .ok (.iconst (-1), 1) := by decide +kernel
theorem dX11_thread_41 : decode cX11_thread 41 = .ok (.ireturn, 1) := by decide +kernel
theorem dX11_thread_42 : decode cX11_thread 42 = .ok (.aload_n 0, 1) := by decide +kernel
theorem dX11_thread_43 : decode cX11_thread 43 = .ok (.getfield 35, 3) := by decide +kernel
theorem dX11_thread_46 : decode cX11_thread 46 = .ok (.getfield 192, 3) := by decide +kernel
theorem dX11_thread_49 : decode cX11_thread 49 = .ok (.iload_n 1, 1) := by decide +kernel
theorem dX11_thread_50 : decode cX11_thread 50 = .ok (.iload_n 2, 1) := by decide +kernel
theorem dX11_thread_51 : decode cX11_thread 51 = .ok (.invokevirtual 195, 3) := by decide +kernel
theorem dX11_thread_54 : decode cX11_thread 54 = .ok (.ireturn, 1) := by decide +kernel
theorem dX11_hangs_0 : decode cX11_hangs 0 = .ok (.aload_n 0, 1) := by decide +kernel
theorem dX11_hangs_1 : decode cX11_hangs 1 = .ok (.getfield 35, 3) := by decide +kernel
theorem dX11_hangs_4 : decode cX11_hangs 4 = .ok (.invokevirtual 198, 3) := by decide +kernel
theorem dX11_hangs_7 : decode cX11_hangs 7 = .ok (.ireturn, 1) := by decide +kernel
theorem dX11_cell_0 : decode cX11_cell 0 = .ok (.iload_n 1, 1) := by decide +kernel
theorem dX11_cell_1 : decode cX11_cell 1 = .ok (.iconst 0, 1) := by decide +kernel
theorem dX11_cell_2 : decode cX11_cell 2 = .ok (.bipush 8, 2) := by decide +kernel
theorem dX11_cell_4 : decode cX11_cell 4 = .ok (.invokestatic 94, 3) := by decide +kernel
theorem dX11_cell_7 : decode cX11_cell 7 = .ok (.ifCond .eq 14, 3) := by decide +kernel
theorem dX11_cell_10 : decode cX11_cell 10 = .ok (.iload_n 2, 1) := by decide +kernel
theorem dX11_cell_11 : decode cX11_cell 11 = .ok (.bipush (-9), 2) := by decide +kernel
theorem dX11_cell_13 : decode cX11_cell 13 = .ok (.bipush 9, 2) := by decide +kernel
theorem dX11_cell_15 : decode cX11_cell 15 = .ok (.invokestatic 94, 3) := by decide +kernel
theorem dX11_cell_18 : decode cX11_cell 18 = .ok (.ifCond .ne 5, 3) := by decide +kernel
theorem dX11_cell_21 : decode cX11_cell 21 = .ok (.iconst 0, 1) := by decide +kernel
theorem dX11_cell_22 : decode cX11_cell 22 = .ok (.ireturn, 1) := by decide +kernel
theorem dX11_cell_23 : decode cX11_cell 23 = .ok (.aload_n 0, 1) := by decide +kernel
theorem dX11_cell_24 : decode cX11_cell 24 = .ok (.getfield 35, 3) := by decide +kernel
theorem dX11_cell_27 : decode cX11_cell 27 = .ok (.getfield 202, 3) := by decide +kernel
theorem dX11_cell_30 : decode cX11_cell 30 = .ok (.iload_n 1, 1) := by decide +kernel
theorem dX11_cell_31 : decode cX11_cell 31 = .ok (.iload_n 2, 1) := by decide +kernel
theorem dX11_cell_32 : decode cX11_cell 32 = .ok (.iastore, 1) := by decide +kernel
theorem dX11_cell_33 : decode cX11_cell 33 = .ok (.iconst 1, 1) := by decide +kernel
theorem dX11_cell_34 : decode cX11_cell 34 = .ok (.ireturn, 1) := by decide +kernel
theorem dX11_determinant_0 : decode cX11_determinant 0 = .ok (.aload_n 0, 1) := by decide +kernel
theorem dX11_determinant_1 : decode cX11_determinant 1 = .ok (.getfield 35, 3) := by decide +kernel
theorem dX11_determinant_4 : decode cX11_determinant 4 = .ok (.invokevirtual 206, 3) := by decide +kernel
theorem dX11_determinant_7 : decode cX11_determinant 7 = .ok (.ireturn, 1) := by decide +kernel
theorem dX11_mark_0 : decode cX11_mark 0 = .ok (.iload_n 1, 1) := by decide +kernel
theorem dX11_mark_1 : decode cX11_mark 1 = .ok (.iconst (-1), 1) := by decide +kernel
theorem dX11_mark_2 : decode cX11_mark 2 = .ok (.if_icmp .ne 15, 3) := by decide +kernel
theorem dX11_mark_5 : decode cX11_mark 5 = .ok (.aload_n 0, 1) := by decide +kernel
theorem dX11_mark_6 : decode cX11_mark 6 = .ok (.getfield 35, 3) := by decide +kernel
theorem dX11_mark_9 : decode cX11_mark 9 = .ok (.getfield 209, 3) := by decide +kernel
theorem dX11_mark_12 : decode cX11_mark 12 = .ok (.iconst 0, 1) := by decide +kernel
theorem dX11_mark_13 : decode cX11_mark 13 = .ok (.invokevirtual 149, 3) := by decide +kernel
theorem dX11_mark_16 : decode cX11_mark 16 = .ok (.ireturn, 1) := by decide +kernel
theorem dX11_mark_17 : decode cX11_mark 17 = .ok (.iload_n 1, 1) := by decide +kernel
theorem dX11_mark_18 : decode cX11_mark 18 = .ok (.iconst 0, 1) := by decide +kernel
theorem dX11_mark_19 : decode cX11_mark 19 = .ok (.bipush 99, 2) := by decide +kernel
theorem dX11_mark_21 : decode cX11_mark 21 = .ok (.invokestatic 94, 3) := by decide +kernel
theorem dX11_mark_24 : decode cX11_mark 24 = .ok (.ifCond .eq 30, 3) := by decide +kernel
theorem dX11_mark_27 : decode cX11_mark 27 = .ok (.iload_n 2, 1) := by decide +kernel
theorem dX11_mark_28 : decode cX11_mark 28 = .ok (.bipush (-99), 2) := by decide +kernel
theorem dX11_mark_30 : decode cX11_mark 30 = .ok (.bipush 99, 2) := by decide +kernel
theorem dX11_mark_32 : decode cX11_mark 32 = .ok (.invokestatic 94, 3) := by decide +kernel
theorem dX11_mark_35 : decode cX11_mark 35 = .ok (.ifCond .eq 19, 3) := by decide +kernel
theorem dX11_mark_38 : decode cX11_mark 38 = .ok (.aload_n 0, 1) := by decide +kernel
theorem dX11_mark_39 : decode cX11_mark 39 = .ok (.getfield 35, 3) := by decide +kernel
theorem dX11_mark_42 : decode cX11_mark 42 = .ok (.getfield 209, 3) := by decide +kernel
theorem dX11_mark_45 : decode cX11_mark 45 = .ok (.iconst 0, 1) := by decide +kernel
theorem dX11_mark_46 : decode cX11_mark 46 = .ok (.iload_n 1, 1) := by decide +kernel
theorem dX11_mark_47 : decode cX11_mark 47 = .ok (.invokevirtual 212, 3) := by decide +kernel
theorem dX11_mark_50 : decode cX11_mark 50 = .ok (.iconst (-1), 1) := by decide +kernel
theorem dX11_mark_51 : decode cX11_mark 51 = .ok (.if_icmp .eq 5, 3) := by decide +kernel
theorem dX11_mark_54 : decode cX11_mark 54 = .ok (.iconst (-1), 1) := by decide +kernel
theorem dX11_mark_55 : decode cX11_mark 55 = .ok (.ireturn, 1) := by decide +kernel
theorem dX11_mark_56 : decode cX11_mark 56 = .ok (.aload_n 0, 1) := by decide +kernel
theorem dX11_mark_57 : decode cX11_mark 57 = .ok (.getfield 35, 3) := by decide +kernel
theorem dX11_mark_60 : decode cX11_mark 60 = .ok (.getfield 209, 3) := by decide +kernel
theorem dX11_mark_63 : decode cX11_mark 63 = .ok (.iload_n 1, 1) := by decide +kernel
theorem dX11_mark_64 : decode cX11_mark 64 = .ok (.iload_n 2, 1) := by decide +kernel
theorem dX11_mark_65 : decode cX11_mark 65 = .ok (.invokevirtual 195, 3) := by decide +kernel
theorem dX11_mark_68 : decode cX11_mark 68 = .ok (.ireturn, 1) := by decide +kernel
theorem dX11_marks_0 : decode cX11_marks 0 = .ok (.iload_n 1, 1) := by decide +kernel
theorem dX11_marks_1 : decode cX11_marks 1 = .ok (.iconst 0, 1) := by decide +kernel
theorem dX11_marks_2 : decode cX11_marks 2 = .ok (.bipush 99, 2) := by decide +kernel
theorem dX11_marks_4 : decode cX11_marks 4 = .ok (.invokestatic 94, 3) := by decide +kernel
theorem dX11_marks_7 : decode cX11_marks 7 = .ok (.ifCond .eq 12, 3) := by decide +kernel
theorem dX11_marks_10 : decode cX11_marks 10 = .ok (.iload_n 2, 1) := by decide +kernel
theorem dX11_marks_11 : decode cX11_marks 11 = .ok (.iconst 0, 1) := by decide +kernel
theorem dX11_marks_12 : decode cX11_marks 12 = .ok (.iconst 1, 1) := by decide +kernel
theorem dX11_marks_13 : decode cX11_marks 13 = .ok (.invokestatic 94, 3) := by decide +kernel
theorem dX11_marks_16 : decode cX11_marks 16 = .ok (.ifCond .ne 6, 3) := by decide +kernel
theorem dX11_marks_19 : decode cX11_marks 19 = .ok (.bipush (-100), 2) := by decide +kernel
theorem dX11_marks_21 : decode cX11_marks 21 = .ok (.ireturn, 1) := by decide +kernel
theorem dX11_marks_22 : decode cX11_marks 22 = .ok (.aload_n 0, 1) := by decide +kernel
theorem dX11_marks_23 : decode cX11_marks 23 = .ok (.getfield 35, 3) := by decide +kernel
theorem dX11_marks_26 : decode cX11_marks 26 = .ok (.iload_n 1, 1) := by decide +kernel
theorem dX11_marks_27 : decode cX11_marks 27 = .ok (.iload_n 2, 1) := by decide +kernel
theorem dX11_marks_28 : decode cX11_marks 28 = .ok (.ifCond .ne 7, 3) := by decide +kernel
theorem dX11_marks_31 : decode cX11_marks 31 = .ok (.iconst 1, 1) := by decide +kernel
theorem dX11_marks_32 : decode cX11_marks 32 = .ok (.goto 4, 3) := by decide +kernel
theorem dX11_marks_35 : decode cX11_marks 35 = .ok (.iconst 0, 1) := by decide +kernel
theorem dX11_marks_36 : decode cX11_marks 36 = .ok (.invokevirtual 215, 3) := by decide +kernel
theorem dX11_marks_39 : decode cX11_marks 39 = .ok (.ireturn, 1) := by decide +kernel
theorem dX11_chord_0 : decode cX11_chord 0 = .ok (.iload_n 1, 1) := by decide +kernel
theorem dX11_chord_1 : decode cX11_chord 1 = .ok (.iconst (-1), 1) := by decide +kernel
theorem dX11_chord_2 : decode cX11_chord 2 = .ok (.if_icmp .ne 15, 3) := by decide +kernel
theorem dX11_chord_5 : decode cX11_chord 5 = .ok (.aload_n 0, 1) := by decide +kernel
theorem dX11_chord_6 : decode cX11_chord 6 = .ok (.getfield 35, 3) := by decide +kernel
theorem dX11_chord_9 : decode cX11_chord 9 = .ok (.getfield 219, 3) := by decide +kernel
theorem dX11_chord_12 : decode cX11_chord 12 = .ok (.iconst 0, 1) := by decide +kernel
theorem dX11_chord_13 : decode cX11_chord 13 = .ok (.invokevirtual 149, 3) := by decide +kernel
theorem dX11_chord_16 : decode cX11_chord 16 = .ok (.ireturn, 1) := by decide +kernel
theorem dX11_chord_17 : decode cX11_chord 17 = .ok (.iload_n 1, 1) := by decide +kernel
theorem dX11_chord_18 : decode cX11_chord 18 = .ok (.iconst 0, 1) := by decide +kernel
theorem dX11_chord_19 : decode cX11_chord 19 = .ok (.bipush 11, 2) := by decide +kernel
theorem dX11_chord_21 : decode cX11_chord 21 = .ok (.invokestatic 94, 3) := by decide +kernel
theorem dX11_chord_24 : decode cX11_chord 24 = .ok (.ifCond .eq 40, 3) := by decide +kernel
theorem dX11_chord_27 : decode cX11_chord 27 = .ok (.iload_n 2, 1) := by decide +kernel
theorem dX11_chord_28 : decode cX11_chord 28 = .ok (.iconst 0, 1) := by decide +kernel
theorem dX11_chord_29 : decode cX11_chord 29 = .ok (.bipush 11, 2) := by decide +kernel
theorem dX11_chord_31 : decode cX11_chord 31 = .ok (.invokestatic 94, 3) := by decide +kernel
theorem dX11_chord_34 : decode cX11_chord 34 = .ok (.ifCond .eq 30, 3) := by decide +kernel
theorem dX11_chord_37 : decode cX11_chord 37 = .ok (.iload_n 1, 1) := by decide +kernel
theorem dX11_chord_38 : decode cX11_chord 38 = .ok (.iload_n 2, 1) := by decide +kernel
theorem dX11_chord_39 : decode cX11_chord 39 = .ok (.if_icmp .eq 25, 3) := by decide +kernel
theorem dX11_chord_42 : decode cX11_chord 42 = .ok (.aload_n 0, 1) := by decide +kernel
theorem dX11_chord_43 : decode cX11_chord 43 = .ok (.getfield 35, 3) := by decide +kernel
theorem dX11_chord_46 : decode cX11_chord 46 = .ok (.iload_n 1, 1) := by decide +kernel
theorem dX11_chord_47 : decode cX11_chord 47 = .ok (.invokevirtual 222, 3) := by decide +kernel
theorem dX11_chord_50 : decode cX11_chord 50 = .ok (.ifCond .ne 14, 3) := by decide +kernel
theorem dX11_chord_53 : decode cX11_chord 53 = .ok (.aload_n 0, 1) := by decide +kernel
theorem dX11_chord_54 : decode cX11_chord 54 = .ok (.getfield 35, 3) := by decide +kernel
theorem dX11_chord_57 : decode cX11_chord 57 = .ok (.iload_n 2, 1) := by decide +kernel
theorem dX11_chord_58 : decode cX11_chord 58 = .ok (.invokevirtual 222, 3) := by decide +kernel
theorem dX11_chord_61 : decode cX11_chord 61 = .ok (.ifCond .eq 5, 3) := by decide +kernel
theorem dX11_chord_64 : decode cX11_chord 64 = .ok (.iconst (-1), 1) := by decide +kernel
theorem dX11_chord_65 : decode cX11_chord 65 = .ok (.ireturn, 1) := by decide +kernel
theorem dX11_chord_66 : decode cX11_chord 66 = .ok (.aload_n 0, 1) := by decide +kernel
theorem dX11_chord_67 : decode cX11_chord 67 = .ok (.getfield 35, 3) := by decide +kernel
theorem dX11_chord_70 : decode cX11_chord 70 = .ok (.getfield 219, 3) := by decide +kernel
theorem dX11_chord_73 : decode cX11_chord 73 = .ok (.iload_n 1, 1) := by decide +kernel
theorem dX11_chord_74 : decode cX11_chord 74 = .ok (.iload_n 2, 1) := by decide +kernel
theorem dX11_chord_75 : decode cX11_chord 75 = .ok (.invokevirtual 195, 3) := by decide +kernel
theorem dX11_chord_78 : decode cX11_chord 78 = .ok (.ireturn, 1) := by decide +kernel
theorem dX11_chords_0 : decode cX11_chords 0 = .ok (.iload_n 1, 1) := by decide +kernel
theorem dX11_chords_1 : decode cX11_chords 1 = .ok (.ifCond .ne 11, 3) := by decide +kernel
theorem dX11_chords_4 : decode cX11_chords 4 = .ok (.aload_n 0, 1) := by decide +kernel
theorem dX11_chords_5 : decode cX11_chords 5 = .ok (.getfield 35, 3) := by decide +kernel
theorem dX11_chords_8 : decode cX11_chords 8 = .ok (.invokevirtual 225, 3) := by decide +kernel
theorem dX11_chords_11 : decode cX11_chords 11 = .ok (.ireturn, 1) := by decide +kernel
theorem dX11_chords_12 : decode cX11_chords 12 = .ok (.iload_n 1, 1) := by decide +kernel
theorem dX11_chords_13 : decode cX11_chords 13 = .ok (.iconst 1, 1) := by decide +kernel
theorem dX11_chords_14 : decode cX11_chords 14 = .ok (.if_icmp .ne 13, 3) := by decide +kernel
theorem dX11_chords_17 : decode cX11_chords 17 = .ok (.aload_n 0, 1) := by decide +kernel
theorem dX11_chords_18 : decode cX11_chords 18 = .ok (.getfield 35, 3) := by decide +kernel
theorem dX11_chords_21 : decode cX11_chords 21 = .ok (.invokevirtual 228, 3) := by decide +kernel
theorem dX11_chords_24 : decode cX11_chords 24 = .ok (.goto 4, 3) := by decide +kernel
theorem dX11_chords_27 : decode cX11_chords 27 = .ok (.iconst (-1), 1) := by decide +kernel
theorem dX11_chords_28 : decode cX11_chords 28 = .ok (.ireturn, 1) := by decide +kernel
theorem dX11_stop_0 : decode cX11_stop 0 = .ok (.iload_n 1, 1) := by decide +kernel
theorem dX11_stop_1 : decode cX11_stop 1 = .ok (.iconst (-1), 1) := by decide +kernel
theorem dX11_stop_2 : decode cX11_stop 2 = .ok (.if_icmp .ne 15, 3) := by decide +kernel
theorem dX11_stop_5 : decode cX11_stop 5 = .ok (.aload_n 0, 1) := by decide +kernel
theorem dX11_stop_6 : decode cX11_stop 6 = .ok (.getfield 35, 3) := by decide +kernel
theorem dX11_stop_9 : decode cX11_stop 9 = .ok (.getfield 231, 3) := by decide +kernel
theorem dX11_stop_12 : decode cX11_stop 12 = .ok (.iconst 0, 1) := by decide +kernel
theorem dX11_stop_13 : decode cX11_stop 13 = .ok (.invokevirtual 149, 3) := by decide +kernel
theorem dX11_stop_16 : decode cX11_stop 16 = .ok (.ireturn, 1) := by decide +kernel
theorem dX11_stop_17 : decode cX11_stop 17 = .ok (.iload_n 1, 1) := by decide +kernel
theorem dX11_stop_18 : decode cX11_stop 18 = .ok (.iconst 0, 1) := by decide +kernel
theorem dX11_stop_19 : decode cX11_stop 19 = .ok (.bipush 20, 2) := by decide +kernel
theorem dX11_stop_21 : decode cX11_stop 21 = .ok (.invokestatic 94, 3) := by decide +kernel
theorem dX11_stop_24 : decode cX11_stop 24 = .ok (.ifCond .eq 13, 3) := by decide +kernel
theorem dX11_stop_27 : decode cX11_stop 27 = .ok (.iload_n 2, 1) := by decide +kernel
theorem dX11_stop_28 : decode cX11_stop 28 = .ok (.iconst 0, 1) := by decide +kernel
theorem dX11_stop_29 : decode cX11_stop 29 = .ok (.bipush 20, 2) := by decide +kernel
theorem dX11_stop_31 : decode cX11_stop 31 = .ok (.invokestatic 94, 3) := by decide +kernel
theorem dX11_stop_34 : decode cX11_stop 34 = .ok (.ifCond .ne 5, 3) := by decide +kernel
theorem dX11_stop_37 : decode cX11_stop 37 = .ok (.iconst (-1), 1) := by decide +kernel
theorem dX11_stop_38 : decode cX11_stop 38 = .ok (.ireturn, 1) := by decide +kernel
theorem dX11_stop_39 : decode cX11_stop 39 = .ok (.aload_n 0, 1) := by decide +kernel
theorem dX11_stop_40 : decode cX11_stop 40 = .ok (.getfield 35, 3) := by decide +kernel
theorem dX11_stop_43 : decode cX11_stop 43 = .ok (.getfield 231, 3) := by decide +kernel
theorem dX11_stop_46 : decode cX11_stop 46 = .ok (.iload_n 1, 1) := by decide +kernel
theorem dX11_stop_47 : decode cX11_stop 47 = .ok (.iload_n 2, 1) := by decide +kernel
theorem dX11_stop_48 : decode cX11_stop 48 = .ok (.invokevirtual 195, 3) := by decide +kernel
theorem dX11_stop_51 : decode cX11_stop 51 = .ok (.ireturn, 1) := by decide +kernel
theorem dX11_round_0 : decode cX11_round 0 = .ok (.iload_n 1, 1) := by decide +kernel
theorem dX11_round_1 : decode cX11_round 1 = .ok (.ifCond .ne 11, 3) := by decide +kernel
theorem dX11_round_4 : decode cX11_round 4 = .ok (.aload_n 0, 1) := by decide +kernel
theorem dX11_round_5 : decode cX11_round 5 = .ok (.getfield 35, 3) := by decide +kernel
theorem dX11_round_8 : decode cX11_round 8 = .ok (.invokevirtual 234, 3) := by decide +kernel
theorem dX11_round_11 : decode cX11_round 11 = .ok (.ireturn, 1) := by decide +kernel
theorem dX11_round_12 : decode cX11_round 12 = .ok (.iload_n 1, 1) := by decide +kernel
theorem dX11_round_13 : decode cX11_round 13 = .ok (.iconst 1, 1) := by decide +kernel
theorem dX11_round_14 : decode cX11_round 14 = .ok (.if_icmp .ne 13, 3) := by decide +kernel
theorem dX11_round_17 : decode cX11_round 17 = .ok (.aload_n 0, 1) := by decide +kernel
theorem dX11_round_18 : decode cX11_round 18 = .ok (.getfield 35, 3) := by decide +kernel
theorem dX11_round_21 : decode cX11_round 21 = .ok (.invokevirtual 237, 3) := by decide +kernel
theorem dX11_round_24 : decode cX11_round 24 = .ok (.goto 4, 3) := by decide +kernel
theorem dX11_round_27 : decode cX11_round 27 = .ok (.iconst (-1), 1) := by decide +kernel
theorem dX11_round_28 : decode cX11_round 28 = .ok (.ireturn, 1) := by decide +kernel
theorem dX11_ones_0 : decode cX11_ones 0 = .ok (.iload_n 1, 1) := by decide +kernel
theorem dX11_ones_1 : decode cX11_ones 1 = .ok (.iconst 0, 1) := by decide +kernel
theorem dX11_ones_2 : decode cX11_ones 2 = .ok (.sipush 9999, 3) := by decide +kernel
theorem dX11_ones_5 : decode cX11_ones 5 = .ok (.invokestatic 94, 3) := by decide +kernel
theorem dX11_ones_8 : decode cX11_ones 8 = .ok (.ifCond .eq 13, 3) := by decide +kernel
theorem dX11_ones_11 : decode cX11_ones 11 = .ok (.iload_n 2, 1) := by decide +kernel
theorem dX11_ones_12 : decode cX11_ones 12 = .ok (.iconst (-1), 1) := by decide +kernel
theorem dX11_ones_13 : decode cX11_ones 13 = .ok (.bipush 14, 2) := by decide +kernel
theorem dX11_ones_15 : decode cX11_ones 15 = .ok (.invokestatic 94, 3) := by decide +kernel
theorem dX11_ones_18 : decode cX11_ones 18 = .ok (.ifCond .ne 5, 3) := by decide +kernel
theorem dX11_ones_21 : decode cX11_ones 21 = .ok (.iconst (-1), 1) := by decide +kernel
theorem dX11_ones_22 : decode cX11_ones 22 = .ok (.ireturn, 1) := by decide +kernel
theorem dX11_ones_23 : decode cX11_ones 23 = .ok (.iload_n 2, 1) := by decide +kernel
theorem dX11_ones_24 : decode cX11_ones 24 = .ok (.iconst (-1), 1) := by decide +kernel
theorem dX11_ones_25 : decode cX11_ones 25 = .ok (.if_icmp .ne 10, 3) := by decide +kernel
theorem dX11_ones_28 : decode cX11_ones 28 = .ok (.iload_n 1, 1) := by decide +kernel
theorem dX11_ones_29 : decode cX11_ones 29 = .ok (.invokestatic 240, 3) := by decide +kernel
theorem dX11_ones_32 : decode cX11_ones 32 = .ok (.goto 8, 3) := by decide +kernel
theorem dX11_ones_35 : decode cX11_ones 35 = .ok (.iload_n 1, 1) := by decide +kernel
theorem dX11_ones_36 : decode cX11_ones 36 = .ok (.iload_n 2, 1) := by decide +kernel
theorem dX11_ones_37 : decode cX11_ones 37 = .ok (.invokestatic 245, 3) := by decide +kernel
theorem dX11_ones_40 : decode cX11_ones 40 = .ok (.ireturn, 1) := by decide +kernel
theorem dX11_digit_0 : decode cX11_digit 0 = .ok (.iload_n 1, 1) := by decide +kernel
theorem dX11_digit_1 : decode cX11_digit 1 = .ok (.iconst (-1), 1) := by decide +kernel
theorem dX11_digit_2 : decode cX11_digit 2 = .ok (.if_icmp .ne 15, 3) := by decide +kernel
theorem dX11_digit_5 : decode cX11_digit 5 = .ok (.aload_n 0, 1) := by decide +kernel
theorem dX11_digit_6 : decode cX11_digit 6 = .ok (.getfield 35, 3) := by decide +kernel
theorem dX11_digit_9 : decode cX11_digit 9 = .ok (.getfield 248, 3) := by decide +kernel
theorem dX11_digit_12 : decode cX11_digit 12 = .ok (.iconst 0, 1) := by decide +kernel
theorem dX11_digit_13 : decode cX11_digit 13 = .ok (.invokevirtual 149, 3) := by decide +kernel
theorem dX11_digit_16 : decode cX11_digit 16 = .ok (.ireturn, 1) := by decide +kernel
theorem dX11_digit_17 : decode cX11_digit 17 = .ok (.iload_n 1, 1) := by decide +kernel
theorem dX11_digit_18 : decode cX11_digit 18 = .ok (.iconst 0, 1) := by decide +kernel
theorem dX11_digit_19 : decode cX11_digit 19 = .ok (.bipush 9, 2) := by decide +kernel
theorem dX11_digit_21 : decode cX11_digit 21 = .ok (.invokestatic 94, 3) := by decide +kernel
theorem dX11_digit_24 : decode cX11_digit 24 = .ok (.ifCond .eq 18, 3) := by decide +kernel
theorem dX11_digit_27 : decode cX11_digit 27 = .ok (.aload_n 0, 1) := by decide +kernel
theorem dX11_digit_28 : decode cX11_digit 28 = .ok (.getfield 35, 3) := by decide +kernel
theorem dX11_digit_31 : decode cX11_digit 31 = .ok (.getfield 248, 3) := by decide +kernel
theorem dX11_digit_34 : decode cX11_digit 34 = .ok (.iload_n 1, 1) := by decide +kernel
theorem dX11_digit_35 : decode cX11_digit 35 = .ok (.iconst 0, 1) := by decide +kernel
theorem dX11_digit_36 : decode cX11_digit 36 = .ok (.invokevirtual 195, 3) := by decide +kernel
theorem dX11_digit_39 : decode cX11_digit 39 = .ok (.goto 4, 3) := by decide +kernel
theorem dX11_digit_42 : decode cX11_digit 42 = .ok (.iconst (-1), 1) := by decide +kernel
theorem dX11_digit_43 : decode cX11_digit 43 = .ok (.ireturn, 1) := by decide +kernel
theorem dX11_order_0 : decode cX11_order 0 = .ok (.iload_n 1, 1) := by decide +kernel
theorem dX11_order_1 : decode cX11_order 1 = .ok (.ifCond .ne 11, 3) := by decide +kernel
theorem dX11_order_4 : decode cX11_order 4 = .ok (.aload_n 0, 1) := by decide +kernel
theorem dX11_order_5 : decode cX11_order 5 = .ok (.getfield 35, 3) := by decide +kernel
theorem dX11_order_8 : decode cX11_order 8 = .ok (.invokevirtual 251, 3) := by decide +kernel
theorem dX11_order_11 : decode cX11_order 11 = .ok (.ireturn, 1) := by decide +kernel
theorem dX11_order_12 : decode cX11_order 12 = .ok (.iload_n 1, 1) := by decide +kernel
theorem dX11_order_13 : decode cX11_order 13 = .ok (.iconst 1, 1) := by decide +kernel
theorem dX11_order_14 : decode cX11_order 14 = .ok (.if_icmp .ne 11, 3) := by decide +kernel
theorem dX11_order_17 : decode cX11_order 17 = .ok (.aload_n 0, 1) := by decide +kernel
theorem dX11_order_18 : decode cX11_order 18 = .ok (.getfield 35, 3) := by decide +kernel
theorem dX11_order_21 : decode cX11_order 21 = .ok (.invokevirtual 254, 3) := by decide +kernel
theorem dX11_order_24 : decode cX11_order 24 = .ok (.ireturn, 1) := by decide +kernel
theorem dX11_order_25 : decode cX11_order 25 = .ok (.iload_n 1, 1) := by decide +kernel
theorem dX11_order_26 : decode cX11_order 26 = .ok (.iconst 2, 1) := by decide +kernel
theorem dX11_order_27 : decode cX11_order 27 = .ok (.if_icmp .ne 13, 3) := by decide +kernel
theorem dX11_order_30 : decode cX11_order 30 = .ok (.aload_n 0, 1) := by decide +kernel
theorem dX11_order_31 : decode cX11_order 31 = .ok (.getfield 35, 3) := by decide +kernel
theorem dX11_order_34 : decode cX11_order 34 = .ok (.invokevirtual 257, 3) := by decide +kernel
theorem dX11_order_37 : decode cX11_order 37 = .ok (.goto 4, 3) := by decide +kernel
theorem dX11_order_40 : decode cX11_order 40 = .ok (.iconst (-1), 1) := by decide +kernel
theorem dX11_order_41 : decode cX11_order 41 = .ok (.ireturn, 1) := by decide +kernel
theorem dX11_sign_0 : decode cX11_sign 0 = .ok (.iload_n 1, 1) := by decide +kernel
theorem dX11_sign_1 : decode cX11_sign 1 = .ok (.iconst (-1), 1) := by decide +kernel
theorem dX11_sign_2 : decode cX11_sign 2 = .ok (.if_icmp .ne 15, 3) := by decide +kernel
theorem dX11_sign_5 : decode cX11_sign 5 = .ok (.aload_n 0, 1) := by decide +kernel
theorem dX11_sign_6 : decode cX11_sign 6 = .ok (.getfield 35, 3) := by decide +kernel
theorem dX11_sign_9 : decode cX11_sign 9 = .ok (.getfield 260, 3) := by decide +kernel
theorem dX11_sign_12 : decode cX11_sign 12 = .ok (.iconst 0, 1) := by decide +kernel
theorem dX11_sign_13 : decode cX11_sign 13 = .ok (.invokevirtual 149, 3) := by decide +kernel
theorem dX11_sign_16 : decode cX11_sign 16 = .ok (.ireturn, 1) := by decide +kernel
theorem dX11_sign_17 : decode cX11_sign 17 = .ok (.iload_n 1, 1) := by decide +kernel
theorem dX11_sign_18 : decode cX11_sign 18 = .ok (.iconst 0, 1) := by decide +kernel
theorem dX11_sign_19 : decode cX11_sign 19 = .ok (.bipush 14, 2) := by decide +kernel
theorem dX11_sign_21 : decode cX11_sign 21 = .ok (.invokestatic 94, 3) := by decide +kernel
theorem dX11_sign_24 : decode cX11_sign 24 = .ok (.ifCond .eq 18, 3) := by decide +kernel
theorem dX11_sign_27 : decode cX11_sign 27 = .ok (.aload_n 0, 1) := by decide +kernel
theorem dX11_sign_28 : decode cX11_sign 28 = .ok (.getfield 35, 3) := by decide +kernel
theorem dX11_sign_31 : decode cX11_sign 31 = .ok (.getfield 260, 3) := by decide +kernel
theorem dX11_sign_34 : decode cX11_sign 34 = .ok (.iload_n 1, 1) := by decide +kernel
theorem dX11_sign_35 : decode cX11_sign 35 = .ok (.iconst 0, 1) := by decide +kernel
theorem dX11_sign_36 : decode cX11_sign 36 = .ok (.invokevirtual 195, 3) := by decide +kernel
theorem dX11_sign_39 : decode cX11_sign 39 = .ok (.goto 4, 3) := by decide +kernel
theorem dX11_sign_42 : decode cX11_sign 42 = .ok (.iconst (-1), 1) := by decide +kernel
theorem dX11_sign_43 : decode cX11_sign 43 = .ok (.ireturn, 1) := by decide +kernel
theorem dX11_stack_0 : decode cX11_stack 0 = .ok (.iload_n 1, 1) := by decide +kernel
theorem dX11_stack_1 : decode cX11_stack 1 = .ok (.iconst 0, 1) := by decide +kernel
theorem dX11_stack_2 : decode cX11_stack 2 = .ok (.iconst 2, 1) := by decide +kernel
theorem dX11_stack_3 : decode cX11_stack 3 = .ok (.invokestatic 94, 3) := by decide +kernel
theorem dX11_stack_6 : decode cX11_stack 6 = .ok (.ifCond .eq 14, 3) := by decide +kernel
theorem dX11_stack_9 : decode cX11_stack 9 = .ok (.aload_n 0, 1) := by decide +kernel
theorem dX11_stack_10 : decode cX11_stack 10 = .ok (.getfield 35, 3) := by decide +kernel
theorem dX11_stack_13 : decode cX11_stack 13 = .ok (.iload_n 1, 1) := by decide +kernel
theorem dX11_stack_14 : decode cX11_stack 14 = .ok (.invokevirtual 263, 3) := by decide +kernel
theorem dX11_stack_17 : decode cX11_stack 17 = .ok (.goto 5, 3) := by decide +kernel
theorem dX11_stack_20 : decode cX11_stack 20 = .ok (.bipush (-100), 2) := by decide +kernel
theorem dX11_stack_22 : decode cX11_stack 22 = .ok (.ireturn, 1) := by decide +kernel
theorem dX11_strung_0 : decode cX11_strung 0 = .ok (.iload_n 1, 1) := by decide +kernel
theorem dX11_strung_1 : decode cX11_strung 1 = .ok (.iconst 0, 1) := by decide +kernel
theorem dX11_strung_2 : decode cX11_strung 2 = .ok (.sipush 9999, 3) := by decide +kernel
theorem dX11_strung_5 : decode cX11_strung 5 = .ok (.invokestatic 94, 3) := by decide +kernel
theorem dX11_strung_8 : decode cX11_strung 8 = .ok (.ifCond .eq 12, 3) := by decide +kernel
theorem dX11_strung_11 : decode cX11_strung 11 = .ok (.iload_n 2, 1) := by decide +kernel
theorem dX11_strung_12 : decode cX11_strung 12 = .ok (.iconst 0, 1) := by decide +kernel
theorem dX11_strung_13 : decode cX11_strung 13 = .ok (.iconst 1, 1) := by decide +kernel
theorem dX11_strung_14 : decode cX11_strung 14 = .ok (.invokestatic 94, 3) := by decide +kernel
theorem dX11_strung_17 : decode cX11_strung 17 = .ok (.ifCond .ne 5, 3) := by decide +kernel
theorem dX11_strung_20 : decode cX11_strung 20 = .ok (.iconst (-1), 1) := by decide +kernel
theorem dX11_strung_21 : decode cX11_strung 21 = .ok (.ireturn, 1) := by decide +kernel
theorem dX11_strung_22 : decode cX11_strung 22 = .ok (.iload_n 1, 1) := by decide +kernel
theorem dX11_strung_23 : decode cX11_strung 23 = .ok (.invokestatic 266, 3) := by decide +kernel
theorem dX11_strung_26 : decode cX11_strung 26 = .ok (.istore_n 3, 1) := by decide +kernel
theorem dX11_strung_27 : decode cX11_strung 27 = .ok (.iload_n 2, 1) := by decide +kernel
theorem dX11_strung_28 : decode cX11_strung 28 = .ok (.ifCond .ne 7, 3) := by decide +kernel
theorem dX11_strung_31 : decode cX11_strung 31 = .ok (.iload_n 3, 1) := by decide +kernel
theorem dX11_strung_32 : decode cX11_strung 32 = .ok (.goto 7, 3) := by decide +kernel
theorem dX11_strung_35 : decode cX11_strung 35 = .ok (.iload_n 3, 1) := by decide +kernel
theorem dX11_strung_36 : decode cX11_strung 36 = .ok (.invokestatic 269, 3) := by decide +kernel
theorem dX11_strung_39 : decode cX11_strung 39 = .ok (.ireturn, 1) := by decide +kernel
theorem dX11_run_0 : decode cX11_run 0 = .ok (.iload_n 1, 1) := by decide +kernel
theorem dX11_run_1 : decode cX11_run 1 = .ok (.iconst (-1), 1) := by decide +kernel
theorem dX11_run_2 : decode cX11_run 2 = .ok (.if_icmp .ne 15, 3) := by decide +kernel
theorem dX11_run_5 : decode cX11_run 5 = .ok (.aload_n 0, 1) := by decide +kernel
theorem dX11_run_6 : decode cX11_run 6 = .ok (.getfield 35, 3) := by decide +kernel
theorem dX11_run_9 : decode cX11_run 9 = .ok (.getfield 274, 3) := by decide +kernel
theorem dX11_run_12 : decode cX11_run 12 = .ok (.iconst 0, 1) := by decide +kernel
theorem dX11_run_13 : decode cX11_run 13 = .ok (.invokevirtual 149, 3) := by decide +kernel
theorem dX11_run_16 : decode cX11_run 16 = .ok (.ireturn, 1) := by decide +kernel
theorem dX11_run_17 : decode cX11_run 17 = .ok (.iload_n 1, 1) := by decide +kernel
theorem dX11_run_18 : decode cX11_run 18 = .ok (.iconst 0, 1) := by decide +kernel
theorem dX11_run_19 : decode cX11_run 19 = .ok (.bipush 9, 2) := by decide +kernel
theorem dX11_run_21 : decode cX11_run 21 = .ok (.invokestatic 94, 3) := by decide +kernel
theorem dX11_run_24 : decode cX11_run 24 = .ok (.ifCond .eq 18, 3) := by decide +kernel
theorem dX11_run_27 : decode cX11_run 27 = .ok (.aload_n 0, 1) := by decide +kernel
theorem dX11_run_28 : decode cX11_run 28 = .ok (.getfield 35, 3) := by decide +kernel
theorem dX11_run_31 : decode cX11_run 31 = .ok (.getfield 274, 3) := by decide +kernel
theorem dX11_run_34 : decode cX11_run 34 = .ok (.iload_n 1, 1) := by decide +kernel
theorem dX11_run_35 : decode cX11_run 35 = .ok (.iconst 0, 1) := by decide +kernel
theorem dX11_run_36 : decode cX11_run 36 = .ok (.invokevirtual 195, 3) := by decide +kernel
theorem dX11_run_39 : decode cX11_run 39 = .ok (.goto 4, 3) := by decide +kernel
theorem dX11_run_42 : decode cX11_run 42 = .ok (.iconst (-1), 1) := by decide +kernel
theorem dX11_run_43 : decode cX11_run 43 = .ok (.ireturn, 1) := by decide +kernel
theorem dX11_runs_0 : decode cX11_runs 0 = .ok (.iload_n 1, 1) := by decide +kernel
theorem dX11_runs_1 : decode cX11_runs 1 = .ok (.ifCond .ne 11, 3) := by decide +kernel
theorem dX11_runs_4 : decode cX11_runs 4 = .ok (.aload_n 0, 1) := by decide +kernel
theorem dX11_runs_5 : decode cX11_runs 5 = .ok (.getfield 35, 3) := by decide +kernel
theorem dX11_runs_8 : decode cX11_runs 8 = .ok (.invokevirtual 277, 3) := by decide +kernel
theorem dX11_runs_11 : decode cX11_runs 11 = .ok (.ireturn, 1) := by decide +kernel
theorem dX11_runs_12 : decode cX11_runs 12 = .ok (.iload_n 1, 1) := by decide +kernel
theorem dX11_runs_13 : decode cX11_runs 13 = .ok (.iconst 1, 1) := by decide +kernel
theorem dX11_runs_14 : decode cX11_runs 14 = .ok (.if_icmp .ne 11, 3) := by decide +kernel
theorem dX11_runs_17 : decode cX11_runs 17 = .ok (.aload_n 0, 1) := by decide +kernel
theorem dX11_runs_18 : decode cX11_runs 18 = .ok (.getfield 35, 3) := by decide +kernel
theorem dX11_runs_21 : decode cX11_runs 21 = .ok (.invokevirtual 280, 3) := by decide +kernel
theorem dX11_runs_24 : decode cX11_runs 24 = .ok (.ireturn, 1) := by decide +kernel
theorem dX11_runs_25 : decode cX11_runs 25 = .ok (.iload_n 1, 1) := by decide +kernel
theorem dX11_runs_26 : decode cX11_runs 26 = .ok (.bipush 100, 2) := by decide +kernel
theorem dX11_runs_28 : decode cX11_runs 28 = .ok (.sipush 208, 3) := by decide +kernel
theorem dX11_runs_31 : decode cX11_runs 31 = .ok (.invokestatic 94, 3) := by decide +kernel
theorem dX11_runs_34 : decode cX11_runs 34 = .ok (.ifCond .eq 17, 3) := by decide +kernel
theorem dX11_runs_37 : decode cX11_runs 37 = .ok (.aload_n 0, 1) := by decide +kernel
theorem dX11_runs_38 : decode cX11_runs 38 = .ok (.getfield 35, 3) := by decide +kernel
theorem dX11_runs_41 : decode cX11_runs 41 = .ok (.iload_n 1, 1) := by decide +kernel
theorem dX11_runs_42 : decode cX11_runs 42 = .ok (.bipush 100, 2) := by decide +kernel
theorem dX11_runs_44 : decode cX11_runs 44 = .ok (.isub, 1) := by decide +kernel
theorem dX11_runs_45 : decode cX11_runs 45 = .ok (.invokevirtual 283, 3) := by decide +kernel
theorem dX11_runs_48 : decode cX11_runs 48 = .ok (.goto 4, 3) := by decide +kernel
theorem dX11_runs_51 : decode cX11_runs 51 = .ok (.iconst (-1), 1) := by decide +kernel
theorem dX11_runs_52 : decode cX11_runs 52 = .ok (.ireturn, 1) := by decide +kernel
theorem dX11_hole_0 : decode cX11_hole 0 = .ok (.iload_n 1, 1) := by decide +kernel
theorem dX11_hole_1 : decode cX11_hole 1 = .ok (.iconst 0, 1) := by decide +kernel
theorem dX11_hole_2 : decode cX11_hole 2 = .ok (.iconst 5, 1) := by decide +kernel
theorem dX11_hole_3 : decode cX11_hole 3 = .ok (.invokestatic 94, 3) := by decide +kernel
theorem dX11_hole_6 : decode cX11_hole 6 = .ok (.ifCond .eq 12, 3) := by decide +kernel
theorem dX11_hole_9 : decode cX11_hole 9 = .ok (.iload_n 2, 1) := by decide +kernel
theorem dX11_hole_10 : decode cX11_hole 10 = .ok (.iconst 0, 1) := by decide +kernel
theorem dX11_hole_11 : decode cX11_hole 11 = .ok (.iconst 5, 1) := by decide +kernel
theorem dX11_hole_12 : decode cX11_hole 12 = .ok (.invokestatic 94, 3) := by decide +kernel
theorem dX11_hole_15 : decode cX11_hole 15 = .ok (.ifCond .ne 5, 3) := by decide +kernel
theorem dX11_hole_18 : decode cX11_hole 18 = .ok (.iconst 0, 1) := by decide +kernel
theorem dX11_hole_19 : decode cX11_hole 19 = .ok (.ireturn, 1) := by decide +kernel
theorem dX11_hole_20 : decode cX11_hole 20 = .ok (.lconst 1, 1) := by decide +kernel
theorem dX11_hole_21 : decode cX11_hole 21 = .ok (.iload_n 2, 1) := by decide +kernel
theorem dX11_hole_22 : decode cX11_hole 22 = .ok (.bipush 6, 2) := by decide +kernel
theorem dX11_hole_24 : decode cX11_hole 24 = .ok (.imul, 1) := by decide +kernel
theorem dX11_hole_25 : decode cX11_hole 25 = .ok (.iload_n 1, 1) := by decide +kernel
theorem dX11_hole_26 : decode cX11_hole 26 = .ok (.iadd, 1) := by decide +kernel
theorem dX11_hole_27 : decode cX11_hole 27 = .ok (.lshl, 1) := by decide +kernel
theorem dX11_hole_28 : decode cX11_hole 28 = .ok (.lstore 4, 2) := by decide +kernel
theorem dX11_hole_30 : decode cX11_hole 30 = .ok (.aload_n 0, 1) := by decide +kernel
theorem dX11_hole_31 : decode cX11_hole 31 = .ok (.getfield 35, 3) := by decide +kernel
theorem dX11_hole_34 : decode cX11_hole 34 = .ok (.iload_n 3, 1) := by decide +kernel
theorem dX11_hole_35 : decode cX11_hole 35 = .ok (.ifCond .eq 16, 3) := by decide +kernel
theorem dX11_hole_38 : decode cX11_hole 38 = .ok (.aload_n 0, 1) := by decide +kernel
theorem dX11_hole_39 : decode cX11_hole 39 = .ok (.getfield 35, 3) := by decide +kernel
theorem dX11_hole_42 : decode cX11_hole 42 = .ok (.getfield 286, 3) := by decide +kernel
theorem dX11_hole_45 : decode cX11_hole 45 = .ok (.lload 4, 2) := by decide +kernel
theorem dX11_hole_47 : decode cX11_hole 47 = .ok (.lor, 1) := by decide +kernel
theorem dX11_hole_48 : decode cX11_hole 48 = .ok (.goto 17, 3) := by decide +kernel
theorem dX11_hole_51 : decode cX11_hole 51 = .ok (.aload_n 0, 1) := by decide +kernel
theorem dX11_hole_52 : decode cX11_hole 52 = .ok (.getfield 35, 3) := by decide +kernel
theorem dX11_hole_55 : decode cX11_hole 55 = .ok (.getfield 286, 3) := by decide +kernel
theorem dX11_hole_58 : decode cX11_hole 58 = .ok (.lload 4, 2) := by decide +kernel
theorem dX11_hole_60 : decode cX11_hole 60 = .ok (.ldc2_w 290, 3) := by decide +kernel
theorem dX11_hole_63 : decode cX11_hole 63 = .ok (.lxor, 1) := by decide +kernel
theorem dX11_hole_64 : decode cX11_hole 64 = .ok (.land, 1) := by decide +kernel
theorem dX11_hole_65 : decode cX11_hole 65 = .ok (.putfield 286, 3) := by decide +kernel
theorem dX11_hole_68 : decode cX11_hole 68 = .ok (.iconst 1, 1) := by decide +kernel
theorem dX11_hole_69 : decode cX11_hole 69 = .ok (.ireturn, 1) := by decide +kernel
theorem dX11_leaks_0 : decode cX11_leaks 0 = .ok (.iload_n 1, 1) := by decide +kernel
theorem dX11_leaks_1 : decode cX11_leaks 1 = .ok (.ifCond .ne 19, 3) := by decide +kernel
theorem dX11_leaks_4 : decode cX11_leaks 4 = .ok (.aload_n 0, 1) := by decide +kernel
theorem dX11_leaks_5 : decode cX11_leaks 5 = .ok (.getfield 35, 3) := by decide +kernel
theorem dX11_leaks_8 : decode cX11_leaks 8 = .ok (.invokevirtual 292, 3) := by decide +kernel
theorem dX11_leaks_11 : decode cX11_leaks 11 = .ok (.ifCond .ne 7, 3) := by decide +kernel
theorem dX11_leaks_14 : decode cX11_leaks 14 = .ok (.iconst 1, 1) := by decide +kernel
theorem dX11_leaks_15 : decode cX11_leaks 15 = .ok (.goto 4, 3) := by decide +kernel
theorem dX11_leaks_18 : decode cX11_leaks 18 = .ok (.iconst 0, 1) := by decide +kernel
theorem dX11_leaks_19 : decode cX11_leaks 19 = .ok (.ireturn, 1) := by decide +kernel
theorem dX11_leaks_20 : decode cX11_leaks 20 = .ok (.iload_n 1, 1) := by decide +kernel
theorem dX11_leaks_21 : decode cX11_leaks 21 = .ok (.iconst 1, 1) := by decide +kernel
theorem dX11_leaks_22 : decode cX11_leaks 22 = .ok (.if_icmp .ne 13, 3) := by decide +kernel
theorem dX11_leaks_25 : decode cX11_leaks 25 = .ok (.aload_n 0, 1) := by decide +kernel
theorem dX11_leaks_26 : decode cX11_leaks 26 = .ok (.getfield 35, 3) := by decide +kernel
theorem dX11_leaks_29 : decode cX11_leaks 29 = .ok (.invokevirtual 292, 3) := by decide +kernel
theorem dX11_leaks_32 : decode cX11_leaks 32 = .ok (.goto 4, 3) := by decide +kernel
theorem dX11_leaks_35 : decode cX11_leaks 35 = .ok (.iconst (-1), 1) := by decide +kernel
theorem dX11_leaks_36 : decode cX11_leaks 36 = .ok (.ireturn, 1) := by decide +kernel
theorem dX11_colours_0 : decode cX11_colours 0 = .ok (.iload_n 1, 1) := by decide +kernel
theorem dX11_colours_1 : decode cX11_colours 1 = .ok (.iconst 1, 1) := by decide +kernel
theorem dX11_colours_2 : decode cX11_colours 2 = .ok (.bipush 40, 2) := by decide +kernel
theorem dX11_colours_4 : decode cX11_colours 4 = .ok (.invokestatic 94, 3) := by decide +kernel
theorem dX11_colours_7 : decode cX11_colours 7 = .ok (.ifCond .eq 22, 3) := by decide +kernel
theorem dX11_colours_10 : decode cX11_colours 10 = .ok (.iload_n 2, 1) := by decide +kernel
theorem dX11_colours_11 : decode cX11_colours 11 = .ok (.iconst 1, 1) := by decide +kernel
theorem dX11_colours_12 : decode cX11_colours 12 = .ok (.bipush 9, 2) := by decide +kernel
theorem dX11_colours_14 : decode cX11_colours 14 = .ok (.invokestatic 94, 3) := by decide +kernel
theorem dX11_colours_17 : decode cX11_colours 17 = .ok (.ifCond .eq 12, 3) := by decide +kernel
theorem dX11_colours_20 : decode cX11_colours 20 = .ok (.iload_n 3, 1) := by decide +kernel
theorem dX11_colours_21 : decode cX11_colours 21 = .ok (.iconst 0, 1) := by decide +kernel
theorem dX11_colours_22 : decode cX11_colours 22 = .ok (.iconst 1, 1) := by decide +kernel
theorem dX11_colours_23 : decode cX11_colours 23 = .ok (.invokestatic 94, 3) := by decide +kernel
theorem dX11_colours_26 : decode cX11_colours 26 = .ok (.ifCond .ne 5, 3) := by decide +kernel
theorem dX11_colours_29 : decode cX11_colours 29 = .ok (.iconst (-1), 1) := by decide +kernel
theorem dX11_colours_30 : decode cX11_colours 30 = .ok (.ireturn, 1) := by decide +kernel
theorem dX11_colours_31 : decode cX11_colours 31 = .ok (.iload_n 3, 1) := by decide +kernel
theorem dX11_colours_32 : decode cX11_colours 32 = .ok (.ifCond .ne 11, 3) := by decide +kernel
theorem dX11_colours_35 : decode cX11_colours 35 = .ok (.iload_n 1, 1) := by decide +kernel
theorem dX11_colours_36 : decode cX11_colours 36 = .ok (.iload_n 2, 1) := by decide +kernel
theorem dX11_colours_37 : decode cX11_colours 37 = .ok (.invokestatic 295, 3) := by decide +kernel
theorem dX11_colours_40 : decode cX11_colours 40 = .ok (.goto 8, 3) := by decide +kernel
theorem dX11_colours_43 : decode cX11_colours 43 = .ok (.iload_n 1, 1) := by decide +kernel
theorem dX11_colours_44 : decode cX11_colours 44 = .ok (.iload_n 2, 1) := by decide +kernel
theorem dX11_colours_45 : decode cX11_colours 45 = .ok (.invokestatic 298, 3) := by decide +kernel
theorem dX11_colours_48 : decode cX11_colours 48 = .ok (.ireturn, 1) := by decide +kernel
theorem dX11_game_0 : decode cX11_game 0 = .ok (.iload_n 1, 1) := by decide +kernel
theorem dX11_game_1 : decode cX11_game 1 = .ok (.iconst 1, 1) := by decide +kernel
theorem dX11_game_2 : decode cX11_game 2 = .ok (.iconst 4, 1) := by decide +kernel
theorem dX11_game_3 : decode cX11_game 3 = .ok (.invokestatic 94, 3) := by decide +kernel
theorem dX11_game_6 : decode cX11_game 6 = .ok (.ifCond .eq 20, 3) := by decide +kernel
theorem dX11_game_9 : decode cX11_game 9 = .ok (.iload_n 2, 1) := by decide +kernel
theorem dX11_game_10 : decode cX11_game 10 = .ok (.iconst 1, 1) := by decide +kernel
theorem dX11_game_11 : decode cX11_game 11 = .ok (.iconst 4, 1) := by decide +kernel
theorem dX11_game_12 : decode cX11_game 12 = .ok (.invokestatic 94, 3) := by decide +kernel
theorem dX11_game_15 : decode cX11_game 15 = .ok (.ifCond .eq 11, 3) := by decide +kernel
theorem dX11_game_18 : decode cX11_game 18 = .ok (.iload_n 3, 1) := by decide +kernel
theorem dX11_game_19 : decode cX11_game 19 = .ok (.iload_n 1, 1) := by decide +kernel
theorem dX11_game_20 : decode cX11_game 20 = .ok (.iload_n 2, 1) := by decide +kernel
theorem dX11_game_21 : decode cX11_game 21 = .ok (.imul, 1) := by decide +kernel
theorem dX11_game_22 : decode cX11_game 22 = .ok (.iushr, 1) := by decide +kernel
theorem dX11_game_23 : decode cX11_game 23 = .ok (.ifCond .eq 5, 3) := by decide +kernel
theorem dX11_game_26 : decode cX11_game 26 = .ok (.iconst (-1), 1) := by decide +kernel
theorem dX11_game_27 : decode cX11_game 27 = .ok (.ireturn, 1) := by decide +kernel
theorem dX11_game_28 : decode cX11_game 28 = .ok (.aload_n 0, 1) := by decide +kernel
theorem dX11_game_29 : decode cX11_game 29 = .ok (.getfield 83, 3) := by decide +kernel
theorem dX11_game_32 : decode cX11_game 32 = .ok (.iload_n 1, 1) := by decide +kernel
theorem dX11_game_33 : decode cX11_game 33 = .ok (.iload_n 2, 1) := by decide +kernel
theorem dX11_game_34 : decode cX11_game 34 = .ok (.iload_n 3, 1) := by decide +kernel
theorem dX11_game_35 : decode cX11_game 35 = .ok (.invokevirtual 301, 3) := by decide +kernel
theorem dX11_game_38 : decode cX11_game 38 = .ok (.ireturn, 1) := by decide +kernel
theorem dX11_undo_0 : decode cX11_undo 0 = .ok (.aload_n 0, 1) := by decide +kernel
theorem dX11_undo_1 : decode cX11_undo 1 = .ok (.getfield 69, 3) := by decide +kernel
theorem dX11_undo_4 : decode cX11_undo 4 = .ok (.getfield 305, 3) := by decide +kernel
theorem dX11_undo_7 : decode cX11_undo 7 = .ok (.ifCond .ne 5, 3) := by decide +kernel
theorem dX11_undo_10 : decode cX11_undo 10 = .ok (.iconst 0, 1) := by decide +kernel
theorem dX11_undo_11 : decode cX11_undo 11 = .ok (.ireturn, 1) := by decide +kernel
theorem dX11_undo_12 : decode cX11_undo 12 = .ok (.aload_n 0, 1) := by decide +kernel
theorem dX11_undo_13 : decode cX11_undo 13 = .ok (.getfield 21, 3) := by decide +kernel
theorem dX11_undo_16 : decode cX11_undo 16 = .ok (.aload_n 0, 1) := by decide +kernel
theorem dX11_undo_17 : decode cX11_undo 17 = .ok (.getfield 69, 3) := by decide +kernel
theorem dX11_undo_20 : decode cX11_undo 20 = .ok (.aload_n 0, 1) := by decide +kernel
theorem dX11_undo_21 : decode cX11_undo 21 = .ok (.getfield 10, 3) := by decide +kernel
theorem dX11_undo_24 : decode cX11_undo 24 = .ok (.invokevirtual 306, 3) := by decide +kernel
theorem dX11_undo_27 : decode cX11_undo 27 = .ok (.invokevirtual 149, 3) := by decide +kernel
theorem dX11_undo_30 : decode cX11_undo 30 = .ok (.pop, 1) := by decide +kernel
theorem dX11_undo_31 : decode cX11_undo 31 = .ok (.iconst 1, 1) := by decide +kernel
theorem dX11_undo_32 : decode cX11_undo 32 = .ok (.ireturn, 1) := by decide +kernel
theorem dX11_image_0 : decode cX11_image 0 = .ok (.iload_n 1, 1) := by decide +kernel
theorem dX11_image_1 : decode cX11_image 1 = .ok (.ifCond .eq 28, 3) := by decide +kernel
theorem dX11_image_4 : decode cX11_image 4 = .ok (.aload_n 0, 1) := by decide +kernel
theorem dX11_image_5 : decode cX11_image 5 = .ok (.getfield 76, 3) := by decide +kernel
theorem dX11_image_8 : decode cX11_image 8 = .ok (.aload_n 0, 1) := by decide +kernel
theorem dX11_image_9 : decode cX11_image 9 = .ok (.getfield 10, 3) := by decide +kernel
theorem dX11_image_12 : decode cX11_image 12 = .ok (.aload_n 0, 1) := by decide +kernel
theorem dX11_image_13 : decode cX11_image 13 = .ok (.getfield 21, 3) := by decide +kernel
theorem dX11_image_16 : decode cX11_image 16 = .ok (.aload_n 0, 1) := by decide +kernel
theorem dX11_image_17 : decode cX11_image 17 = .ok (.getfield 28, 3) := by decide +kernel
theorem dX11_image_20 : decode cX11_image 20 = .ok (.aload_n 0, 1) := by decide +kernel
theorem dX11_image_21 : decode cX11_image 21 = .ok (.getfield 35, 3) := by decide +kernel
theorem dX11_image_24 : decode cX11_image 24 = .ok (.invokevirtual 310, 3) := by decide +kernel
theorem dX11_image_27 : decode cX11_image 27 = .ok (.iconst 1, 1) := by decide +kernel
theorem dX11_image_28 : decode cX11_image 28 = .ok (.ireturn, 1) := by decide +kernel
theorem dX11_image_29 : decode cX11_image 29 = .ok (.aload_n 0, 1) := by decide +kernel
theorem dX11_image_30 : decode cX11_image 30 = .ok (.getfield 76, 3) := by decide +kernel
theorem dX11_image_33 : decode cX11_image 33 = .ok (.getfield 314, 3) := by decide +kernel
theorem dX11_image_36 : decode cX11_image 36 = .ok (.ifCond .ne 5, 3) := by decide +kernel
theorem dX11_image_39 : decode cX11_image 39 = .ok (.iconst 0, 1) := by decide +kernel
theorem dX11_image_40 : decode cX11_image 40 = .ok (.ireturn, 1) := by decide +kernel
theorem dX11_image_41 : decode cX11_image 41 = .ok (.aload_n 0, 1) := by decide +kernel
theorem dX11_image_42 : decode cX11_image 42 = .ok (.getfield 76, 3) := by decide +kernel
theorem dX11_image_45 : decode cX11_image 45 = .ok (.aload_n 0, 1) := by decide +kernel
theorem dX11_image_46 : decode cX11_image 46 = .ok (.getfield 10, 3) := by decide +kernel
theorem dX11_image_49 : decode cX11_image 49 = .ok (.aload_n 0, 1) := by decide +kernel
theorem dX11_image_50 : decode cX11_image 50 = .ok (.getfield 21, 3) := by decide +kernel
theorem dX11_image_53 : decode cX11_image 53 = .ok (.aload_n 0, 1) := by decide +kernel
theorem dX11_image_54 : decode cX11_image 54 = .ok (.getfield 28, 3) := by decide +kernel
theorem dX11_image_57 : decode cX11_image 57 = .ok (.aload_n 0, 1) := by decide +kernel
theorem dX11_image_58 : decode cX11_image 58 = .ok (.getfield 35, 3) := by decide +kernel
theorem dX11_image_61 : decode cX11_image 61 = .ok (.invokevirtual 318, 3) := by decide +kernel
theorem dX11_image_64 : decode cX11_image 64 = .ok (.aload_n 0, 1) := by decide +kernel
theorem dX11_image_65 : decode cX11_image 65 = .ok (.getfield 69, 3) := by decide +kernel
theorem dX11_image_68 : decode cX11_image 68 = .ok (.invokevirtual 91, 3) := by decide +kernel
theorem dX11_image_71 : decode cX11_image 71 = .ok (.iconst 1, 1) := by decide +kernel
theorem dX11_image_72 : decode cX11_image 72 = .ok (.ireturn, 1) := by decide +kernel
theorem dX11_look_0 : decode cX11_look 0 = .ok (.iload_n 1, 1) := by decide +kernel
theorem dX11_look_1 : decode cX11_look 1 = .ok (.tableswitch 231 0 15 #[79, 90, 101, 112, 120, 128, 136, 144, 152, 160, 168, 176, 190, 201, 212, 223], 79) := by decide +kernel
theorem dX11_look_80 : decode cX11_look 80 = .ok (.aload_n 0, 1) := by decide +kernel
theorem dX11_look_81 : decode cX11_look 81 = .ok (.getfield 10, 3) := by decide +kernel
theorem dX11_look_84 : decode cX11_look 84 = .ok (.getfield 98, 3) := by decide +kernel
theorem dX11_look_87 : decode cX11_look 87 = .ok (.getfield 125, 3) := by decide +kernel
theorem dX11_look_90 : decode cX11_look 90 = .ok (.ireturn, 1) := by decide +kernel
theorem dX11_look_91 : decode cX11_look 91 = .ok (.aload_n 0, 1) := by decide +kernel
theorem dX11_look_92 : decode cX11_look 92 = .ok (.getfield 10, 3) := by decide +kernel
theorem dX11_look_95 : decode cX11_look 95 = .ok (.getfield 109, 3) := by decide +kernel
theorem dX11_look_98 : decode cX11_look 98 = .ok (.getfield 125, 3) := by decide +kernel
theorem dX11_look_101 : decode cX11_look 101 = .ok (.ireturn, 1) := by decide +kernel
theorem dX11_look_102 : decode cX11_look 102 = .ok (.aload_n 0, 1) := by decide +kernel
theorem dX11_look_103 : decode cX11_look 103 = .ok (.getfield 10, 3) := by decide +kernel
theorem dX11_look_106 : decode cX11_look 106 = .ok (.getfield 112, 3) := by decide +kernel
theorem dX11_look_109 : decode cX11_look 109 = .ok (.getfield 125, 3) := by decide +kernel
theorem dX11_look_112 : decode cX11_look 112 = .ok (.ireturn, 1) := by decide +kernel
theorem dX11_look_113 : decode cX11_look 113 = .ok (.aload_n 0, 1) := by decide +kernel
theorem dX11_look_114 : decode cX11_look 114 = .ok (.getfield 10, 3) := by decide +kernel
theorem dX11_look_117 : decode cX11_look 117 = .ok (.invokevirtual 321, 3) := by decide +kernel
theorem dX11_look_120 : decode cX11_look 120 = .ok (.ireturn, 1) := by decide +kernel
theorem dX11_look_121 : decode cX11_look 121 = .ok (.aload_n 0, 1) := by decide +kernel
theorem dX11_look_122 : decode cX11_look 122 = .ok (.getfield 10, 3) := by decide +kernel
theorem dX11_look_125 : decode cX11_look 125 = .ok (.getfield 324, 3) := by decide +kernel
theorem dX11_look_128 : decode cX11_look 128 = .ok (.ireturn, 1) := by decide +kernel
theorem dX11_look_129 : decode cX11_look 129 = .ok (.aload_n 0, 1) := by decide +kernel
theorem dX11_look_130 : decode cX11_look 130 = .ok (.getfield 10, 3) := by decide +kernel
theorem dX11_look_133 : decode cX11_look 133 = .ok (.getfield 327, 3) := by decide +kernel
theorem dX11_look_136 : decode cX11_look 136 = .ok (.ireturn, 1) := by decide +kernel
theorem dX11_look_137 : decode cX11_look 137 = .ok (.aload_n 0, 1) := by decide +kernel
theorem dX11_look_138 : decode cX11_look 138 = .ok (.getfield 10, 3) := by decide +kernel
theorem dX11_look_141 : decode cX11_look 141 = .ok (.getfield 330, 3) := by decide +kernel
theorem dX11_look_144 : decode cX11_look 144 = .ok (.ireturn, 1) := by decide +kernel
theorem dX11_look_145 : decode cX11_look 145 = .ok (.aload_n 0, 1) := by decide +kernel
theorem dX11_look_146 : decode cX11_look 146 = .ok (.getfield 10, 3) := by decide +kernel
theorem dX11_look_149 : decode cX11_look 149 = .ok (.getfield 186, 3) := by decide +kernel
theorem dX11_look_152 : decode cX11_look 152 = .ok (.ireturn, 1) := by decide +kernel
theorem dX11_look_153 : decode cX11_look 153 = .ok (.aload_n 0, 1) := by decide +kernel
theorem dX11_look_154 : decode cX11_look 154 = .ok (.getfield 10, 3) := by decide +kernel
theorem dX11_look_157 : decode cX11_look 157 = .ok (.getfield 135, 3) := by decide +kernel
theorem dX11_look_160 : decode cX11_look 160 = .ok (.ireturn, 1) := by decide +kernel
theorem dX11_look_161 : decode cX11_look 161 = .ok (.aload_n 0, 1) := by decide +kernel
theorem dX11_look_162 : decode cX11_look 162 = .ok (.getfield 21, 3) := by decide +kernel
theorem dX11_look_165 : decode cX11_look 165 = .ok (.getfield 125, 3) := by decide +kernel
theorem dX11_look_168 : decode cX11_look 168 = .ok (.ireturn, 1) := by decide +kernel
theorem dX11_look_169 : decode cX11_look 169 = .ok (.aload_n 0, 1) := by decide +kernel
theorem dX11_look_170 : decode cX11_look 170 = .ok (.getfield 10, 3) := by decide +kernel
theorem dX11_look_173 : decode cX11_look 173 = .ok (.getfield 87, 3) := by decide +kernel
theorem dX11_look_176 : decode cX11_look 176 = .ok (.ireturn, 1) := by decide +kernel
theorem dX11_look_177 : decode cX11_look 177 = .ok (.aload_n 0, 1) := by decide +kernel
theorem dX11_look_178 : decode cX11_look 178 = .ok (.getfield 28, 3) := by decide +kernel
theorem dX11_look_181 : decode cX11_look 181 = .ok (.getfield 333, 3) := by decide +kernel
theorem dX11_look_184 : decode cX11_look 184 = .ok (.getfield 337, 3) := by decide +kernel
theorem dX11_look_187 : decode cX11_look 187 = .ok (.getfield 125, 3) := by decide +kernel
theorem dX11_look_190 : decode cX11_look 190 = .ok (.ireturn, 1) := by decide +kernel
theorem dX11_look_191 : decode cX11_look 191 = .ok (.aload_n 0, 1) := by decide +kernel
theorem dX11_look_192 : decode cX11_look 192 = .ok (.getfield 28, 3) := by decide +kernel
theorem dX11_look_195 : decode cX11_look 195 = .ok (.getfield 342, 3) := by decide +kernel
theorem dX11_look_198 : decode cX11_look 198 = .ok (.getfield 125, 3) := by decide +kernel
theorem dX11_look_201 : decode cX11_look 201 = .ok (.ireturn, 1) := by decide +kernel
theorem dX11_look_202 : decode cX11_look 202 = .ok (.aload_n 0, 1) := by decide +kernel
theorem dX11_look_203 : decode cX11_look 203 = .ok (.getfield 28, 3) := by decide +kernel
theorem dX11_look_206 : decode cX11_look 206 = .ok (.getfield 345, 3) := by decide +kernel
theorem dX11_look_209 : decode cX11_look 209 = .ok (.getfield 125, 3) := by decide +kernel
theorem dX11_look_212 : decode cX11_look 212 = .ok (.ireturn, 1) := by decide +kernel
theorem dX11_look_213 : decode cX11_look 213 = .ok (.aload_n 0, 1) := by decide +kernel
theorem dX11_look_214 : decode cX11_look 214 = .ok (.getfield 28, 3) := by decide +kernel
theorem dX11_look_217 : decode cX11_look 217 = .ok (.getfield 348, 3) := by decide +kernel
theorem dX11_look_220 : decode cX11_look 220 = .ok (.getfield 125, 3) := by decide +kernel
theorem dX11_look_223 : decode cX11_look 223 = .ok (.ireturn, 1) := by decide +kernel
theorem dX11_look_224 : decode cX11_look 224 = .ok (.aload_n 0, 1) := by decide +kernel
theorem dX11_look_225 : decode cX11_look 225 = .ok (.getfield 69, 3) := by decide +kernel
theorem dX11_look_228 : decode cX11_look 228 = .ok (.getfield 305, 3) := by decide +kernel
theorem dX11_look_231 : decode cX11_look 231 = .ok (.ireturn, 1) := by decide +kernel
