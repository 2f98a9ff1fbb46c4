theorem dX0_init_0 : decode cX0_init 0 = .ok (.aload_n 0, 1) := by decide +kernel
theorem dX0_init_1 : decode cX0_init 1 = .ok (.invokespecial 3, 3) := by decide +kernel
theorem dX0_init_4 : decode cX0_init 4 = .ok (.aload_n 0, 1) := by decide +kernel
theorem dX0_init_5 : decode cX0_init 5 = .ok (.new 9, 3) := by decide +kernel
theorem dX0_init_8 : decode cX0_init 8 = .ok (.dup, 1) := by decide +kernel
theorem dX0_init_9 : decode cX0_init 9 = .ok (.bipush 12, 2) := by decide +kernel
theorem dX0_init_11 : decode cX0_init 11 = .ok (.iconst 4, 1) := by decide +kernel
theorem dX0_init_12 : decode cX0_init 12 = .ok (.invokespecial 11, 3) := by decide +kernel
theorem dX0_init_15 : decode cX0_init 15 = .ok (.putfield 14, 3) := by decide +kernel
theorem dX0_init_18 : decode cX0_init 18 = .ok (.aload_n 0, 1) := by decide +kernel
theorem dX0_init_19 : decode cX0_init 19 = .ok (.new 9, 3) := by decide +kernel
theorem dX0_init_22 : decode cX0_init 22 = .ok (.dup, 1) := by decide +kernel
theorem dX0_init_23 : decode cX0_init 23 = .ok (.bipush 8, 2) := by decide +kernel
theorem dX0_init_25 : decode cX0_init 25 = .ok (.iconst 4, 1) := by decide +kernel
theorem dX0_init_26 : decode cX0_init 26 = .ok (.invokespecial 11, 3) := by decide +kernel
theorem dX0_init_29 : decode cX0_init 29 = .ok (.putfield 20, 3) := by decide +kernel
theorem dX0_init_32 : decode cX0_init 32 = .ok (.aload_n 0, 1) := by decide +kernel
theorem dX0_init_33 : decode cX0_init 33 = .ok (.new 9, 3) := by decide +kernel
theorem dX0_init_36 : decode cX0_init 36 = .ok (.dup, 1) := by decide +kernel
theorem dX0_init_37 : decode cX0_init 37 = .ok (.bipush 10, 2) := by decide +kernel
theorem dX0_init_39 : decode cX0_init 39 = .ok (.iconst 5, 1) := by decide +kernel
theorem dX0_init_40 : decode cX0_init 40 = .ok (.invokespecial 11, 3) := by decide +kernel
theorem dX0_init_43 : decode cX0_init 43 = .ok (.putfield 23, 3) := by decide +kernel
theorem dX0_init_46 : decode cX0_init 46 = .ok (.return_, 1) := by decide +kernel
theorem dX0_copyFrom_0 : decode cX0_copyFrom 0 = .ok (.aload_n 0, 1) := by decide +kernel
theorem dX0_copyFrom_1 : decode cX0_copyFrom 1 = .ok (.getfield 14, 3) := by decide +kernel
theorem dX0_copyFrom_4 : decode cX0_copyFrom 4 = .ok (.aload_n 1, 1) := by decide +kernel
theorem dX0_copyFrom_5 : decode cX0_copyFrom 5 = .ok (.getfield 14, 3) := by decide +kernel
theorem dX0_copyFrom_8 : decode cX0_copyFrom 8 = .ok (.invokevirtual 26, 3) := by decide +kernel
theorem dX0_copyFrom_11 : decode cX0_copyFrom 11 = .ok (.aload_n 0, 1) := by decide +kernel
theorem dX0_copyFrom_12 : decode cX0_copyFrom 12 = .ok (.getfield 20, 3) := by decide +kernel
theorem dX0_copyFrom_15 : decode cX0_copyFrom 15 = .ok (.aload_n 1, 1) := by decide +kernel
theorem dX0_copyFrom_16 : decode cX0_copyFrom 16 = .ok (.getfield 20, 3) := by decide +kernel
theorem dX0_copyFrom_19 : decode cX0_copyFrom 19 = .ok (.invokevirtual 26, 3) := by decide +kernel
theorem dX0_copyFrom_22 : decode cX0_copyFrom 22 = .ok (.aload_n 0, 1) := by decide +kernel
theorem dX0_copyFrom_23 : decode cX0_copyFrom 23 = .ok (.getfield 23, 3) := by decide +kernel
theorem dX0_copyFrom_26 : decode cX0_copyFrom 26 = .ok (.aload_n 1, 1) := by decide +kernel
theorem dX0_copyFrom_27 : decode cX0_copyFrom 27 = .ok (.getfield 23, 3) := by decide +kernel
theorem dX0_copyFrom_30 : decode cX0_copyFrom 30 = .ok (.invokevirtual 26, 3) := by decide +kernel
theorem dX0_copyFrom_33 : decode cX0_copyFrom 33 = .ok (.aload_n 0, 1) := by decide +kernel
theorem dX0_copyFrom_34 : decode cX0_copyFrom 34 = .ok (.aload_n 1, 1) := by decide +kernel
theorem dX0_copyFrom_35 : decode cX0_copyFrom 35 = .ok (.getfield 30, 3) := by decide +kernel
theorem dX0_copyFrom_38 : decode cX0_copyFrom 38 = .ok (.putfield 30, 3) := by decide +kernel
theorem dX0_copyFrom_41 : decode cX0_copyFrom 41 = .ok (.aload_n 0, 1) := by decide +kernel
theorem dX0_copyFrom_42 : decode cX0_copyFrom 42 = .ok (.aload_n 1, 1) := by decide +kernel
theorem dX0_copyFrom_43 : decode cX0_copyFrom 43 = .ok (.getfield 34, 3) := by decide +kernel
theorem dX0_copyFrom_46 : decode cX0_copyFrom 46 = .ok (.putfield 34, 3) := by decide +kernel
theorem dX0_copyFrom_49 : decode cX0_copyFrom 49 = .ok (.aload_n 0, 1) := by decide +kernel
theorem dX0_copyFrom_50 : decode cX0_copyFrom 50 = .ok (.aload_n 1, 1) := by decide +kernel
theorem dX0_copyFrom_51 : decode cX0_copyFrom 51 = .ok (.getfield 37, 3) := by decide +kernel
theorem dX0_copyFrom_54 : decode cX0_copyFrom 54 = .ok (.putfield 37, 3) := by decide +kernel
theorem dX0_copyFrom_57 : decode cX0_copyFrom 57 = .ok (.aload_n 0, 1) := by decide +kernel
theorem dX0_copyFrom_58 : decode cX0_copyFrom 58 = .ok (.aload_n 1, 1) := by decide +kernel
theorem dX0_copyFrom_59 : decode cX0_copyFrom 59 = .ok (.getfield 40, 3) := by decide +kernel
theorem dX0_copyFrom_62 : decode cX0_copyFrom 62 = .ok (.putfield 40, 3) := by decide +kernel
theorem dX0_copyFrom_65 : decode cX0_copyFrom 65 = .ok (.aload_n 0, 1) := by decide +kernel
theorem dX0_copyFrom_66 : decode cX0_copyFrom 66 = .ok (.aload_n 1, 1) := by decide +kernel
theorem dX0_copyFrom_67 : decode cX0_copyFrom 67 = .ok (.getfield 43, 3) := by decide +kernel
theorem dX0_copyFrom_70 : decode cX0_copyFrom 70 = .ok (.putfield 43, 3) := by decide +kernel
theorem dX0_copyFrom_73 : decode cX0_copyFrom 73 = .ok (.aload_n 0, 1) := by decide +kernel
theorem dX0_copyFrom_74 : decode cX0_copyFrom 74 = .ok (.aload_n 1, 1) := by decide +kernel
theorem dX0_copyFrom_75 : decode cX0_copyFrom 75 = .ok (.getfield 46, 3) := by decide +kernel
theorem dX0_copyFrom_78 : decode cX0_copyFrom 78 = .ok (.putfield 46, 3) := by decide +kernel
theorem dX0_copyFrom_81 : decode cX0_copyFrom 81 = .ok (.return_, 1) := by decide +kernel
theorem dX0_drawOf_0 : decode cX0_drawOf 0 = .ok (.aload_n 0, 1) := by decide +kernel
theorem dX0_drawOf_1 : decode cX0_drawOf 1 = .ok (.ldc 49, 2) := by decide +kernel
theorem dX0_drawOf_3 : decode cX0_drawOf 3 = .ok (.aload_n 0, 1) := by decide +kernel
theorem dX0_drawOf_4 : decode cX0_drawOf 4 = .ok (.getfield 46, 3) := by decide +kernel
theorem dX0_drawOf_7 : decode cX0_drawOf 7 = .ok (.imul, 1) := by decide +kernel
theorem dX0_drawOf_8 : decode cX0_drawOf 8 = .ok (.ldc 50, 2) := by decide +kernel
theorem dX0_drawOf_10 : decode cX0_drawOf 10 = .ok (.iadd, 1) := by decide +kernel
theorem dX0_drawOf_11 : decode cX0_drawOf 11 = .ok (.putfield 46, 3) := by decide +kernel
theorem dX0_drawOf_14 : decode cX0_drawOf 14 = .ok (.iload_n 1, 1) := by decide +kernel
theorem dX0_drawOf_15 : decode cX0_drawOf 15 = .ok (.ifCond .le 15, 3) := by decide +kernel
theorem dX0_drawOf_18 : decode cX0_drawOf 18 = .ok (.aload_n 0, 1) := by decide +kernel
theorem dX0_drawOf_19 : decode cX0_drawOf 19 = .ok (.getfield 46, 3) := by decide +kernel
theorem dX0_drawOf_22 : decode cX0_drawOf 22 = .ok (.bipush 8, 2) := by decide +kernel
theorem dX0_drawOf_24 : decode cX0_drawOf 24 = .ok (.iushr, 1) := by decide +kernel
theorem dX0_drawOf_25 : decode cX0_drawOf 25 = .ok (.iload_n 1, 1) := by decide +kernel
theorem dX0_drawOf_26 : decode cX0_drawOf 26 = .ok (.irem, 1) := by decide +kernel
theorem dX0_drawOf_27 : decode cX0_drawOf 27 = .ok (.goto 4, 3) := by decide +kernel
theorem dX0_drawOf_30 : decode cX0_drawOf 30 = .ok (.iconst 0, 1) := by decide +kernel
theorem dX0_drawOf_31 : decode cX0_drawOf 31 = .ok (.ireturn, 1) := by decide +kernel
theorem dX0_isTorn_0 : decode cX0_isTorn 0 = .ok (.aload_n 0, 1) := by decide +kernel
theorem dX0_isTorn_1 : decode cX0_isTorn 1 = .ok (.getfield 14, 3) := by decide +kernel
theorem dX0_isTorn_4 : decode cX0_isTorn 4 = .ok (.iload_n 1, 1) := by decide +kernel
theorem dX0_isTorn_5 : decode cX0_isTorn 5 = .ok (.iconst 3, 1) := by decide +kernel
theorem dX0_isTorn_6 : decode cX0_isTorn 6 = .ok (.invokevirtual 51, 3) := by decide +kernel
theorem dX0_isTorn_9 : decode cX0_isTorn 9 = .ok (.ifCond .eq 7, 3) := by decide +kernel
theorem dX0_isTorn_12 : decode cX0_isTorn 12 = .ok (.iconst 1, 1) := by decide +kernel
theorem dX0_isTorn_13 : decode cX0_isTorn 13 = .ok (.goto 4, 3) := by decide +kernel
theorem dX0_isTorn_16 : decode cX0_isTorn 16 = .ok (.iconst 0, 1) := by decide +kernel
theorem dX0_isTorn_17 : decode cX0_isTorn 17 = .ok (.ireturn, 1) := by decide +kernel
theorem dX0_mostBeads_0 : decode cX0_mostBeads 0 = .ok (.iconst 3, 1) := by decide +kernel
theorem dX0_mostBeads_1 : decode cX0_mostBeads 1 = .ok (.aload_n 0, 1) := by decide +kernel
theorem dX0_mostBeads_2 : decode cX0_mostBeads 2 = .ok (.getfield 14, 3) := by decide +kernel
theorem dX0_mostBeads_5 : decode cX0_mostBeads 5 = .ok (.iload_n 1, 1) := by decide +kernel
theorem dX0_mostBeads_6 : decode cX0_mostBeads 6 = .ok (.iconst 1, 1) := by decide +kernel
theorem dX0_mostBeads_7 : decode cX0_mostBeads 7 = .ok (.invokevirtual 51, 3) := by decide +kernel
theorem dX0_mostBeads_10 : decode cX0_mostBeads 10 = .ok (.imul, 1) := by decide +kernel
theorem dX0_mostBeads_11 : decode cX0_mostBeads 11 = .ok (.ireturn, 1) := by decide +kernel
theorem dX0_tornSet_0 : decode cX0_tornSet 0 = .ok (.iconst 0, 1) := by decide +kernel
theorem dX0_tornSet_1 : decode cX0_tornSet 1 = .ok (.istore_n 1, 1) := by decide +kernel
theorem dX0_tornSet_2 : decode cX0_tornSet 2 = .ok (.iconst 0, 1) := by decide +kernel
theorem dX0_tornSet_3 : decode cX0_tornSet 3 = .ok (.istore_n 2, 1) := by decide +kernel
theorem dX0_tornSet_4 : decode cX0_tornSet 4 = .ok (.iload_n 2, 1) := by decide +kernel
theorem dX0_tornSet_5 : decode cX0_tornSet 5 = .ok (.aload_n 0, 1) := by decide +kernel
theorem dX0_tornSet_6 : decode cX0_tornSet 6 = .ok (.getfield 14, 3) := by decide +kernel
theorem dX0_tornSet_9 : decode cX0_tornSet 9 = .ok (.getfield 55, 3) := by decide +kernel
theorem dX0_tornSet_12 : decode cX0_tornSet 12 = .ok (.if_icmp .ge 27, 3) := by decide +kernel
theorem dX0_tornSet_15 : decode cX0_tornSet 15 = .ok (.aload_n 0, 1) := by decide +kernel
theorem dX0_tornSet_16 : decode cX0_tornSet 16 = .ok (.getfield 14, 3) := by decide +kernel
theorem dX0_tornSet_19 : decode cX0_tornSet 19 = .ok (.iload_n 2, 1) := by decide +kernel
theorem dX0_tornSet_20 : decode cX0_tornSet 20 = .ok (.iconst 3, 1) := by decide +kernel
theorem dX0_tornSet_21 : decode cX0_tornSet 21 = .ok (.invokevirtual 51, 3) := by decide +kernel
theorem dX0_tornSet_24 : decode cX0_tornSet 24 = .ok (.ifCond .eq 9, 3) := by decide +kernel
theorem dX0_tornSet_27 : decode cX0_tornSet 27 = .ok (.iload_n 1, 1) := by decide +kernel
theorem dX0_tornSet_28 : decode cX0_tornSet 28 = .ok (.iconst 1, 1) := by decide +kernel
theorem dX0_tornSet_29 : decode cX0_tornSet 29 = .ok (.iload_n 2, 1) := by decide +kernel
theorem dX0_tornSet_30 : decode cX0_tornSet 30 = .ok (.ishl, 1) := by decide +kernel
theorem dX0_tornSet_31 : decode cX0_tornSet 31 = .ok (.ior, 1) := by decide +kernel
theorem dX0_tornSet_32 : decode cX0_tornSet 32 = .ok (.istore_n 1, 1) := by decide +kernel
theorem dX0_tornSet_33 : decode cX0_tornSet 33 = .ok (.iinc 2 1, 3) := by decide +kernel
theorem dX0_tornSet_36 : decode cX0_tornSet 36 = .ok (.goto (-32), 3) := by decide +kernel
theorem dX0_tornSet_39 : decode cX0_tornSet 39 = .ok (.iload_n 1, 1) := by decide +kernel
theorem dX0_tornSet_40 : decode cX0_tornSet 40 = .ok (.ireturn, 1) := by decide +kernel
theorem dX0_beadsAt_0 : decode cX0_beadsAt 0 = .ok (.iconst 0, 1) := by decide +kernel
theorem dX0_beadsAt_1 : decode cX0_beadsAt 1 = .ok (.istore_n 2, 1) := by decide +kernel
theorem dX0_beadsAt_2 : decode cX0_beadsAt 2 = .ok (.iconst 0, 1) := by decide +kernel
theorem dX0_beadsAt_3 : decode cX0_beadsAt 3 = .ok (.istore_n 3, 1) := by decide +kernel
theorem dX0_beadsAt_4 : decode cX0_beadsAt 4 = .ok (.iload_n 3, 1) := by decide +kernel
theorem dX0_beadsAt_5 : decode cX0_beadsAt 5 = .ok (.aload_n 0, 1) := by decide +kernel
theorem dX0_beadsAt_6 : decode cX0_beadsAt 6 = .ok (.getfield 14, 3) := by decide +kernel
theorem dX0_beadsAt_9 : decode cX0_beadsAt 9 = .ok (.getfield 55, 3) := by decide +kernel
theorem dX0_beadsAt_12 : decode cX0_beadsAt 12 = .ok (.if_icmp .ge 42, 3) := by decide +kernel
theorem dX0_beadsAt_15 : decode cX0_beadsAt 15 = .ok (.aload_n 0, 1) := by decide +kernel
theorem dX0_beadsAt_16 : decode cX0_beadsAt 16 = .ok (.getfield 14, 3) := by decide +kernel
theorem dX0_beadsAt_19 : decode cX0_beadsAt 19 = .ok (.iload_n 3, 1) := by decide +kernel
theorem dX0_beadsAt_20 : decode cX0_beadsAt 20 = .ok (.iconst 0, 1) := by decide +kernel
theorem dX0_beadsAt_21 : decode cX0_beadsAt 21 = .ok (.invokevirtual 51, 3) := by decide +kernel
theorem dX0_beadsAt_24 : decode cX0_beadsAt 24 = .ok (.iload_n 1, 1) := by decide +kernel
theorem dX0_beadsAt_25 : decode cX0_beadsAt 25 = .ok (.if_icmp .ne 23, 3) := by decide +kernel
theorem dX0_beadsAt_28 : decode cX0_beadsAt 28 = .ok (.aload_n 0, 1) := by decide +kernel
theorem dX0_beadsAt_29 : decode cX0_beadsAt 29 = .ok (.iload_n 3, 1) := by decide +kernel
theorem dX0_beadsAt_30 : decode cX0_beadsAt 30 = .ok (.invokevirtual 58, 3) := by decide +kernel
theorem dX0_beadsAt_33 : decode cX0_beadsAt 33 = .ok (.ifCond .ne 15, 3) := by decide +kernel
theorem dX0_beadsAt_36 : decode cX0_beadsAt 36 = .ok (.iload_n 2, 1) := by decide +kernel
theorem dX0_beadsAt_37 : decode cX0_beadsAt 37 = .ok (.aload_n 0, 1) := by decide +kernel
theorem dX0_beadsAt_38 : decode cX0_beadsAt 38 = .ok (.getfield 14, 3) := by decide +kernel
theorem dX0_beadsAt_41 : decode cX0_beadsAt 41 = .ok (.iload_n 3, 1) := by decide +kernel
theorem dX0_beadsAt_42 : decode cX0_beadsAt 42 = .ok (.iconst 2, 1) := by decide +kernel
theorem dX0_beadsAt_43 : decode cX0_beadsAt 43 = .ok (.invokevirtual 51, 3) := by decide +kernel
theorem dX0_beadsAt_46 : decode cX0_beadsAt 46 = .ok (.iadd, 1) := by decide +kernel
theorem dX0_beadsAt_47 : decode cX0_beadsAt 47 = .ok (.istore_n 2, 1) := by decide +kernel
theorem dX0_beadsAt_48 : decode cX0_beadsAt 48 = .ok (.iinc 3 1, 3) := by decide +kernel
theorem dX0_beadsAt_51 : decode cX0_beadsAt 51 = .ok (.goto (-47), 3) := by decide +kernel
theorem dX0_beadsAt_54 : decode cX0_beadsAt 54 = .ok (.iload_n 2, 1) := by decide +kernel
theorem dX0_beadsAt_55 : decode cX0_beadsAt 55 = .ok (.ireturn, 1) := by decide +kernel
theorem dX0_webToTakeFrom_0 : decode cX0_webToTakeFrom 0 = .ok (.iconst 0, 1) := by decide +kernel
theorem dX0_webToTakeFrom_1 : decode cX0_webToTakeFrom 1 = .ok (.istore_n 2, 1) := by decide +kernel
theorem dX0_webToTakeFrom_2 : decode cX0_webToTakeFrom 2 = .ok (.iload_n 2, 1) := by decide +kernel
theorem dX0_webToTakeFrom_3 : decode cX0_webToTakeFrom 3 = .ok (.aload_n 0, 1) := by decide +kernel
theorem dX0_webToTakeFrom_4 : decode cX0_webToTakeFrom 4 = .ok (.getfield 14, 3) := by decide +kernel
theorem dX0_webToTakeFrom_7 : decode cX0_webToTakeFrom 7 = .ok (.getfield 55, 3) := by decide +kernel
theorem dX0_webToTakeFrom_10 : decode cX0_webToTakeFrom 10 = .ok (.if_icmp .ge 44, 3) := by decide +kernel
theorem dX0_webToTakeFrom_13 : decode cX0_webToTakeFrom 13 = .ok (.aload_n 0, 1) := by decide +kernel
theorem dX0_webToTakeFrom_14 : decode cX0_webToTakeFrom 14 = .ok (.getfield 14, 3) := by decide +kernel
theorem dX0_webToTakeFrom_17 : decode cX0_webToTakeFrom 17 = .ok (.iload_n 2, 1) := by decide +kernel
theorem dX0_webToTakeFrom_18 : decode cX0_webToTakeFrom 18 = .ok (.iconst 0, 1) := by decide +kernel
theorem dX0_webToTakeFrom_19 : decode cX0_webToTakeFrom 19 = .ok (.invokevirtual 51, 3) := by decide +kernel
theorem dX0_webToTakeFrom_22 : decode cX0_webToTakeFrom 22 = .ok (.iload_n 1, 1) := by decide +kernel
theorem dX0_webToTakeFrom_23 : decode cX0_webToTakeFrom 23 = .ok (.if_icmp .ne 25, 3) := by decide +kernel
theorem dX0_webToTakeFrom_26 : decode cX0_webToTakeFrom 26 = .ok (.aload_n 0, 1) := by decide +kernel
theorem dX0_webToTakeFrom_27 : decode cX0_webToTakeFrom 27 = .ok (.iload_n 2, 1) := by decide +kernel
theorem dX0_webToTakeFrom_28 : decode cX0_webToTakeFrom 28 = .ok (.invokevirtual 58, 3) := by decide +kernel
theorem dX0_webToTakeFrom_31 : decode cX0_webToTakeFrom 31 = .ok (.ifCond .ne 17, 3) := by decide +kernel
theorem dX0_webToTakeFrom_34 : decode cX0_webToTakeFrom 34 = .ok (.aload_n 0, 1) := by decide +kernel
theorem dX0_webToTakeFrom_35 : decode cX0_webToTakeFrom 35 = .ok (.getfield 14, 3) := by decide +kernel
theorem dX0_webToTakeFrom_38 : decode cX0_webToTakeFrom 38 = .ok (.iload_n 2, 1) := by decide +kernel
theorem dX0_webToTakeFrom_39 : decode cX0_webToTakeFrom 39 = .ok (.iconst 2, 1) := by decide +kernel
theorem dX0_webToTakeFrom_40 : decode cX0_webToTakeFrom 40 = .ok (.invokevirtual 51, 3) := by decide +kernel
theorem dX0_webToTakeFrom_43 : decode cX0_webToTakeFrom 43 = .ok (.ifCond .le 5, 3) := by decide +kernel
theorem dX0_webToTakeFrom_46 : decode cX0_webToTakeFrom 46 = .ok (.iload_n 2, 1) := by decide +kernel
theorem dX0_webToTakeFrom_47 : decode cX0_webToTakeFrom 47 = .ok (.ireturn, 1) := by decide +kernel
theorem dX0_webToTakeFrom_48 : decode cX0_webToTakeFrom 48 = .ok (.iinc 2 1, 3) := by decide +kernel
theorem dX0_webToTakeFrom_51 : decode cX0_webToTakeFrom 51 = .ok (.goto (-49), 3) := by decide +kernel
theorem dX0_webToTakeFrom_54 : decode cX0_webToTakeFrom 54 = .ok (.iconst (-1), 1) := by decide +kernel
theorem dX0_webToTakeFrom_55 : decode cX0_webToTakeFrom 55 = .ok (.ireturn, 1) := by decide +kernel
theorem dX0_addBeads_0 : decode cX0_addBeads 0 = .ok (.iconst 0, 1) := by decide +kernel
theorem dX0_addBeads_1 : decode cX0_addBeads 1 = .ok (.iload_n 2, 1) := by decide +kernel
theorem dX0_addBeads_2 : decode cX0_addBeads 2 = .ok (.aload_n 0, 1) := by decide +kernel
theorem dX0_addBeads_3 : decode cX0_addBeads 3 = .ok (.iload_n 1, 1) := by decide +kernel
theorem dX0_addBeads_4 : decode cX0_addBeads 4 = .ok (.invokevirtual 62, 3) := by decide +kernel
theorem dX0_addBeads_7 : decode cX0_addBeads 7 = .ok (.aload_n 0, 1) := by decide +kernel
theorem dX0_addBeads_8 : decode cX0_addBeads 8 = .ok (.getfield 14, 3) := by decide +kernel
theorem dX0_addBeads_11 : decode cX0_addBeads 11 = .ok (.iload_n 1, 1) := by decide +kernel
theorem dX0_addBeads_12 : decode cX0_addBeads 12 = .ok (.iconst 2, 1) := by decide +kernel
theorem dX0_addBeads_13 : decode cX0_addBeads 13 = .ok (.invokevirtual 51, 3) := by decide +kernel
theorem dX0_addBeads_16 : decode cX0_addBeads 16 = .ok (.isub, 1) := by decide +kernel
theorem dX0_addBeads_17 : decode cX0_addBeads 17 = .ok (.invokestatic 66, 3) := by decide +kernel
theorem dX0_addBeads_20 : decode cX0_addBeads 20 = .ok (.invokestatic 71, 3) := by decide +kernel
theorem dX0_addBeads_23 : decode cX0_addBeads 23 = .ok (.istore_n 3, 1) := by decide +kernel
theorem dX0_addBeads_24 : decode cX0_addBeads 24 = .ok (.aload_n 0, 1) := by decide +kernel
theorem dX0_addBeads_25 : decode cX0_addBeads 25 = .ok (.getfield 14, 3) := by decide +kernel
theorem dX0_addBeads_28 : decode cX0_addBeads 28 = .ok (.iload_n 1, 1) := by decide +kernel
theorem dX0_addBeads_29 : decode cX0_addBeads 29 = .ok (.iconst 2, 1) := by decide +kernel
theorem dX0_addBeads_30 : decode cX0_addBeads 30 = .ok (.iload_n 3, 1) := by decide +kernel
theorem dX0_addBeads_31 : decode cX0_addBeads 31 = .ok (.invokevirtual 74, 3) := by decide +kernel
theorem dX0_addBeads_34 : decode cX0_addBeads 34 = .ok (.iload_n 3, 1) := by decide +kernel
theorem dX0_addBeads_35 : decode cX0_addBeads 35 = .ok (.ireturn, 1) := by decide +kernel
theorem dX0_maySet_0 : decode cX0_maySet 0 = .ok (.iload_n 1, 1) := by decide +kernel
theorem dX0_maySet_1 : decode cX0_maySet 1 = .ok (.tableswitch 119 0 2 #[27, 65, 92], 27) := by decide +kernel
theorem dX0_maySet_28 : decode cX0_maySet 28 = .ok (.aload_n 0, 1) := by decide +kernel
theorem dX0_maySet_29 : decode cX0_maySet 29 = .ok (.getfield 14, 3) := by decide +kernel
theorem dX0_maySet_32 : decode cX0_maySet 32 = .ok (.iload_n 2, 1) := by decide +kernel
theorem dX0_maySet_33 : decode cX0_maySet 33 = .ok (.invokevirtual 78, 3) := by decide +kernel
theorem dX0_maySet_36 : decode cX0_maySet 36 = .ok (.ifCond .eq 28, 3) := by decide +kernel
theorem dX0_maySet_39 : decode cX0_maySet 39 = .ok (.aload_n 0, 1) := by decide +kernel
theorem dX0_maySet_40 : decode cX0_maySet 40 = .ok (.iload_n 2, 1) := by decide +kernel
theorem dX0_maySet_41 : decode cX0_maySet 41 = .ok (.invokevirtual 58, 3) := by decide +kernel
theorem dX0_maySet_44 : decode cX0_maySet 44 = .ok (.ifCond .ne 20, 3) := by decide +kernel
theorem dX0_maySet_47 : decode cX0_maySet 47 = .ok (.iload_n 3, 1) := by decide +kernel
theorem dX0_maySet_48 : decode cX0_maySet 48 = .ok (.iconst 0, 1) := by decide +kernel
theorem dX0_maySet_49 : decode cX0_maySet 49 = .ok (.aload_n 0, 1) := by decide +kernel
theorem dX0_maySet_50 : decode cX0_maySet 50 = .ok (.iload_n 2, 1) := by decide +kernel
theorem dX0_maySet_51 : decode cX0_maySet 51 = .ok (.invokevirtual 62, 3) := by decide +kernel
theorem dX0_maySet_54 : decode cX0_maySet 54 = .ok (.invokestatic 81, 3) := by decide +kernel
theorem dX0_maySet_57 : decode cX0_maySet 57 = .ok (.ifCond .eq 7, 3) := by decide +kernel
theorem dX0_maySet_60 : decode cX0_maySet 60 = .ok (.iconst 1, 1) := by decide +kernel
theorem dX0_maySet_61 : decode cX0_maySet 61 = .ok (.goto 4, 3) := by decide +kernel
theorem dX0_maySet_64 : decode cX0_maySet 64 = .ok (.iconst 0, 1) := by decide +kernel
theorem dX0_maySet_65 : decode cX0_maySet 65 = .ok (.ireturn, 1) := by decide +kernel
theorem dX0_maySet_66 : decode cX0_maySet 66 = .ok (.aload_n 0, 1) := by decide +kernel
theorem dX0_maySet_67 : decode cX0_maySet 67 = .ok (.getfield 20, 3) := by decide +kernel
theorem dX0_maySet_70 : decode cX0_maySet 70 = .ok (.iload_n 2, 1) := by decide +kernel
theorem dX0_maySet_71 : decode cX0_maySet 71 = .ok (.invokevirtual 78, 3) := by decide +kernel
theorem dX0_maySet_74 : decode cX0_maySet 74 = .ok (.ifCond .eq 17, 3) := by decide +kernel
theorem dX0_maySet_77 : decode cX0_maySet 77 = .ok (.iload_n 3, 1) := by decide +kernel
theorem dX0_maySet_78 : decode cX0_maySet 78 = .ok (.iconst 0, 1) := by decide +kernel
theorem dX0_maySet_79 : decode cX0_maySet 79 = .ok (.bipush 40, 2) := by decide +kernel
theorem dX0_maySet_81 : decode cX0_maySet 81 = .ok (.invokestatic 81, 3) := by decide +kernel
theorem dX0_maySet_84 : decode cX0_maySet 84 = .ok (.ifCond .eq 7, 3) := by decide +kernel
theorem dX0_maySet_87 : decode cX0_maySet 87 = .ok (.iconst 1, 1) := by decide +kernel
theorem dX0_maySet_88 : decode cX0_maySet 88 = .ok (.goto 4, 3) := by decide +kernel
theorem dX0_maySet_91 : decode cX0_maySet 91 = .ok (.iconst 0, 1) := by decide +kernel
theorem dX0_maySet_92 : decode cX0_maySet 92 = .ok (.ireturn, 1) := by decide +kernel
theorem dX0_maySet_93 : decode cX0_maySet 93 = .ok (.aload_n 0, 1) := by decide +kernel
theorem dX0_maySet_94 : decode cX0_maySet 94 = .ok (.getfield 23, 3) := by decide +kernel
theorem dX0_maySet_97 : decode cX0_maySet 97 = .ok (.iload_n 2, 1) := by decide +kernel
theorem dX0_maySet_98 : decode cX0_maySet 98 = .ok (.invokevirtual 78, 3) := by decide +kernel
theorem dX0_maySet_101 : decode cX0_maySet 101 = .ok (.ifCond .eq 17, 3) := by decide +kernel
theorem dX0_maySet_104 : decode cX0_maySet 104 = .ok (.iload_n 3, 1) := by decide +kernel
theorem dX0_maySet_105 : decode cX0_maySet 105 = .ok (.iconst 0, 1) := by decide +kernel
theorem dX0_maySet_106 : decode cX0_maySet 106 = .ok (.bipush 99, 2) := by decide +kernel
theorem dX0_maySet_108 : decode cX0_maySet 108 = .ok (.invokestatic 81, 3) := by decide +kernel
theorem dX0_maySet_111 : decode cX0_maySet 111 = .ok (.ifCond .eq 7, 3) := by decide +kernel
theorem dX0_maySet_114 : decode cX0_maySet 114 = .ok (.iconst 1, 1) := by decide +kernel
theorem dX0_maySet_115 : decode cX0_maySet 115 = .ok (.goto 4, 3) := by decide +kernel
theorem dX0_maySet_118 : decode cX0_maySet 118 = .ok (.iconst 0, 1) := by decide +kernel
theorem dX0_maySet_119 : decode cX0_maySet 119 = .ok (.ireturn, 1) := by decide +kernel
theorem dX0_maySet_120 : decode cX0_maySet 120 = .ok (.iload_n 1, 1) := by decide +kernel
theorem dX0_maySet_121 : decode cX0_maySet 121 = .ok (.iconst 3, 1) := by decide +kernel
theorem dX0_maySet_122 : decode cX0_maySet 122 = .ok (.iconst 5, 1) := by decide +kernel
theorem dX0_maySet_123 : decode cX0_maySet 123 = .ok (.invokestatic 81, 3) := by decide +kernel
theorem dX0_maySet_126 : decode cX0_maySet 126 = .ok (.ifCond .eq 17, 3) := by decide +kernel
theorem dX0_maySet_129 : decode cX0_maySet 129 = .ok (.iload_n 3, 1) := by decide +kernel
theorem dX0_maySet_130 : decode cX0_maySet 130 = .ok (.iconst 0, 1) := by decide +kernel
theorem dX0_maySet_131 : decode cX0_maySet 131 = .ok (.bipush 9, 2) := by decide +kernel
theorem dX0_maySet_133 : decode cX0_maySet 133 = .ok (.invokestatic 81, 3) := by decide +kernel
theorem dX0_maySet_136 : decode cX0_maySet 136 = .ok (.ifCond .eq 7, 3) := by decide +kernel
theorem dX0_maySet_139 : decode cX0_maySet 139 = .ok (.iconst 1, 1) := by decide +kernel
theorem dX0_maySet_140 : decode cX0_maySet 140 = .ok (.goto 4, 3) := by decide +kernel
theorem dX0_maySet_143 : decode cX0_maySet 143 = .ok (.iconst 0, 1) := by decide +kernel
theorem dX0_maySet_144 : decode cX0_maySet 144 = .ok (.ireturn, 1) := by decide +kernel
theorem dX0_setTo_0 : decode cX0_setTo 0 = .ok (.iload_n 1, 1) := by decide +kernel
theorem dX0_setTo_1 : decode cX0_setTo 1 = .ok (.tableswitch 102 0 5 #[39, 52, 65, 78, 86, 94], 39) := by decide +kernel
theorem dX0_setTo_40 : decode cX0_setTo 40 = .ok (.aload_n 0, 1) := by decide +kernel
theorem dX0_setTo_41 : decode cX0_setTo 41 = .ok (.getfield 14, 3) := by decide +kernel
theorem dX0_setTo_44 : decode cX0_setTo 44 = .ok (.iload_n 2, 1) := by decide +kernel
theorem dX0_setTo_45 : decode cX0_setTo 45 = .ok (.iconst 2, 1) := by decide +kernel
theorem dX0_setTo_46 : decode cX0_setTo 46 = .ok (.iload_n 3, 1) := by decide +kernel
theorem dX0_setTo_47 : decode cX0_setTo 47 = .ok (.invokevirtual 85, 3) := by decide +kernel
theorem dX0_setTo_50 : decode cX0_setTo 50 = .ok (.goto 53, 3) := by decide +kernel
theorem dX0_setTo_53 : decode cX0_setTo 53 = .ok (.aload_n 0, 1) := by decide +kernel
theorem dX0_setTo_54 : decode cX0_setTo 54 = .ok (.getfield 20, 3) := by decide +kernel
theorem dX0_setTo_57 : decode cX0_setTo 57 = .ok (.iload_n 2, 1) := by decide +kernel
theorem dX0_setTo_58 : decode cX0_setTo 58 = .ok (.iconst 2, 1) := by decide +kernel
theorem dX0_setTo_59 : decode cX0_setTo 59 = .ok (.iload_n 3, 1) := by decide +kernel
theorem dX0_setTo_60 : decode cX0_setTo 60 = .ok (.invokevirtual 85, 3) := by decide +kernel
theorem dX0_setTo_63 : decode cX0_setTo 63 = .ok (.goto 40, 3) := by decide +kernel
theorem dX0_setTo_66 : decode cX0_setTo 66 = .ok (.aload_n 0, 1) := by decide +kernel
theorem dX0_setTo_67 : decode cX0_setTo 67 = .ok (.getfield 23, 3) := by decide +kernel
theorem dX0_setTo_70 : decode cX0_setTo 70 = .ok (.iload_n 2, 1) := by decide +kernel
theorem dX0_setTo_71 : decode cX0_setTo 71 = .ok (.iconst 1, 1) := by decide +kernel
theorem dX0_setTo_72 : decode cX0_setTo 72 = .ok (.iload_n 3, 1) := by decide +kernel
theorem dX0_setTo_73 : decode cX0_setTo 73 = .ok (.invokevirtual 85, 3) := by decide +kernel
theorem dX0_setTo_76 : decode cX0_setTo 76 = .ok (.goto 27, 3) := by decide +kernel
theorem dX0_setTo_79 : decode cX0_setTo 79 = .ok (.aload_n 0, 1) := by decide +kernel
theorem dX0_setTo_80 : decode cX0_setTo 80 = .ok (.iload_n 3, 1) := by decide +kernel
theorem dX0_setTo_81 : decode cX0_setTo 81 = .ok (.putfield 30, 3) := by decide +kernel
theorem dX0_setTo_84 : decode cX0_setTo 84 = .ok (.goto 19, 3) := by decide +kernel
theorem dX0_setTo_87 : decode cX0_setTo 87 = .ok (.aload_n 0, 1) := by decide +kernel
theorem dX0_setTo_88 : decode cX0_setTo 88 = .ok (.iload_n 3, 1) := by decide +kernel
theorem dX0_setTo_89 : decode cX0_setTo 89 = .ok (.putfield 34, 3) := by decide +kernel
theorem dX0_setTo_92 : decode cX0_setTo 92 = .ok (.goto 11, 3) := by decide +kernel
theorem dX0_setTo_95 : decode cX0_setTo 95 = .ok (.aload_n 0, 1) := by decide +kernel
theorem dX0_setTo_96 : decode cX0_setTo 96 = .ok (.iload_n 3, 1) := by decide +kernel
theorem dX0_setTo_97 : decode cX0_setTo 97 = .ok (.putfield 37, 3) := by decide +kernel
theorem dX0_setTo_100 : decode cX0_setTo 100 = .ok (.goto 3, 3) := by decide +kernel
theorem dX0_setTo_103 : decode cX0_setTo 103 = .ok (.return_, 1) := by decide +kernel
theorem dX1_init_0 : decode cX1_init 0 = .ok (.aload_n 0, 1) := by decide +kernel
theorem dX1_init_1 : decode cX1_init 1 = .ok (.invokespecial 3, 3) := by decide +kernel
theorem dX1_init_4 : decode cX1_init 4 = .ok (.aload_n 0, 1) := by decide +kernel
theorem dX1_init_5 : decode cX1_init 5 = .ok (.new 9, 3) := by decide +kernel
theorem dX1_init_8 : decode cX1_init 8 = .ok (.dup, 1) := by decide +kernel
theorem dX1_init_9 : decode cX1_init 9 = .ok (.invokespecial 11, 3) := by decide +kernel
theorem dX1_init_12 : decode cX1_init 12 = .ok (.putfield 12, 3) := by decide +kernel
theorem dX1_init_15 : decode cX1_init 15 = .ok (.aload_n 0, 1) := by decide +kernel
theorem dX1_init_16 : decode cX1_init 16 = .ok (.new 18, 3) := by decide +kernel
theorem dX1_init_19 : decode cX1_init 19 = .ok (.dup, 1) := by decide +kernel
theorem dX1_init_20 : decode cX1_init 20 = .ok (.sipush 150, 3) := by decide +kernel
theorem dX1_init_23 : decode cX1_init 23 = .ok (.iconst 4, 1) := by decide +kernel
theorem dX1_init_24 : decode cX1_init 24 = .ok (.invokespecial 20, 3) := by decide +kernel
theorem dX1_init_27 : decode cX1_init 27 = .ok (.putfield 23, 3) := by decide +kernel
theorem dX1_init_30 : decode cX1_init 30 = .ok (.aload_n 0, 1) := by decide +kernel
theorem dX1_init_31 : decode cX1_init 31 = .ok (.new 27, 3) := by decide +kernel
theorem dX1_init_34 : decode cX1_init 34 = .ok (.dup, 1) := by decide +kernel
theorem dX1_init_35 : decode cX1_init 35 = .ok (.invokespecial 29, 3) := by decide +kernel
theorem dX1_init_38 : decode cX1_init 38 = .ok (.putfield 30, 3) := by decide +kernel
theorem dX1_init_41 : decode cX1_init 41 = .ok (.aload_n 0, 1) := by decide +kernel
theorem dX1_init_42 : decode cX1_init 42 = .ok (.new 34, 3) := by decide +kernel
theorem dX1_init_45 : decode cX1_init 45 = .ok (.dup, 1) := by decide +kernel
theorem dX1_init_46 : decode cX1_init 46 = .ok (.invokespecial 36, 3) := by decide +kernel
theorem dX1_init_49 : decode cX1_init 49 = .ok (.putfield 37, 3) := by decide +kernel
theorem dX1_init_52 : decode cX1_init 52 = .ok (.return_, 1) := by decide +kernel
theorem dX1_take_0 : decode cX1_take 0 = .ok (.aload_n 0, 1) := by decide +kernel
theorem dX1_take_1 : decode cX1_take 1 = .ok (.iconst 1, 1) := by decide +kernel
theorem dX1_take_2 : decode cX1_take 2 = .ok (.putfield 41, 3) := by decide +kernel
theorem dX1_take_5 : decode cX1_take 5 = .ok (.aload_n 0, 1) := by decide +kernel
theorem dX1_take_6 : decode cX1_take 6 = .ok (.getfield 12, 3) := by decide +kernel
theorem dX1_take_9 : decode cX1_take 9 = .ok (.aload_n 1, 1) := by decide +kernel
theorem dX1_take_10 : decode cX1_take 10 = .ok (.invokevirtual 45, 3) := by decide +kernel
theorem dX1_take_13 : decode cX1_take 13 = .ok (.aload_n 0, 1) := by decide +kernel
theorem dX1_take_14 : decode cX1_take 14 = .ok (.getfield 23, 3) := by decide +kernel
theorem dX1_take_17 : decode cX1_take 17 = .ok (.aload_n 2, 1) := by decide +kernel
theorem dX1_take_18 : decode cX1_take 18 = .ok (.invokevirtual 49, 3) := by decide +kernel
theorem dX1_take_21 : decode cX1_take 21 = .ok (.aload_n 0, 1) := by decide +kernel
theorem dX1_take_22 : decode cX1_take 22 = .ok (.getfield 30, 3) := by decide +kernel
theorem dX1_take_25 : decode cX1_take 25 = .ok (.aload_n 3, 1) := by decide +kernel
theorem dX1_take_26 : decode cX1_take 26 = .ok (.invokevirtual 52, 3) := by decide +kernel
theorem dX1_take_29 : decode cX1_take 29 = .ok (.aload_n 0, 1) := by decide +kernel
theorem dX1_take_30 : decode cX1_take 30 = .ok (.getfield 37, 3) := by decide +kernel
theorem dX1_take_33 : decode cX1_take 33 = .ok (.aload 4, 2) := by decide +kernel
theorem dX1_take_35 : decode cX1_take 35 = .ok (.invokevirtual 55, 3) := by decide +kernel
theorem dX1_take_38 : decode cX1_take 38 = .ok (.return_, 1) := by decide +kernel
theorem dX1_giveBack_0 : decode cX1_giveBack 0 = .ok (.aload_n 1, 1) := by decide +kernel
theorem dX1_giveBack_1 : decode cX1_giveBack 1 = .ok (.aload_n 0, 1) := by decide +kernel
theorem dX1_giveBack_2 : decode cX1_giveBack 2 = .ok (.getfield 12, 3) := by decide +kernel
theorem dX1_giveBack_5 : decode cX1_giveBack 5 = .ok (.invokevirtual 45, 3) := by decide +kernel
theorem dX1_giveBack_8 : decode cX1_giveBack 8 = .ok (.aload_n 2, 1) := by decide +kernel
theorem dX1_giveBack_9 : decode cX1_giveBack 9 = .ok (.aload_n 0, 1) := by decide +kernel
theorem dX1_giveBack_10 : decode cX1_giveBack 10 = .ok (.getfield 23, 3) := by decide +kernel
theorem dX1_giveBack_13 : decode cX1_giveBack 13 = .ok (.invokevirtual 49, 3) := by decide +kernel
theorem dX1_giveBack_16 : decode cX1_giveBack 16 = .ok (.aload_n 3, 1) := by decide +kernel
theorem dX1_giveBack_17 : decode cX1_giveBack 17 = .ok (.aload_n 0, 1) := by decide +kernel
theorem dX1_giveBack_18 : decode cX1_giveBack 18 = .ok (.getfield 30, 3) := by decide +kernel
theorem dX1_giveBack_21 : decode cX1_giveBack 21 = .ok (.invokevirtual 52, 3) := by decide +kernel
theorem dX1_giveBack_24 : decode cX1_giveBack 24 = .ok (.aload 4, 2) := by decide +kernel
theorem dX1_giveBack_26 : decode cX1_giveBack 26 = .ok (.aload_n 0, 1) := by decide +kernel
theorem dX1_giveBack_27 : decode cX1_giveBack 27 = .ok (.getfield 37, 3) := by decide +kernel
theorem dX1_giveBack_30 : decode cX1_giveBack 30 = .ok (.invokevirtual 55, 3) := by decide +kernel
theorem dX1_giveBack_33 : decode cX1_giveBack 33 = .ok (.return_, 1) := by decide +kernel
theorem dX2_init_0 : decode cX2_init 0 = .ok (.aload_n 0, 1) := by decide +kernel
theorem dX2_init_1 : decode cX2_init 1 = .ok (.invokespecial 3, 3) := by decide +kernel
theorem dX2_init_4 : decode cX2_init 4 = .ok (.aload_n 0, 1) := by decide +kernel
theorem dX2_init_5 : decode cX2_init 5 = .ok (.new 9, 3) := by decide +kernel
theorem dX2_init_8 : decode cX2_init 8 = .ok (.dup, 1) := by decide +kernel
theorem dX2_init_9 : decode cX2_init 9 = .ok (.bipush 16, 2) := by decide +kernel
theorem dX2_init_11 : decode cX2_init 11 = .ok (.iconst 4, 1) := by decide +kernel
theorem dX2_init_12 : decode cX2_init 12 = .ok (.invokespecial 11, 3) := by decide +kernel
theorem dX2_init_15 : decode cX2_init 15 = .ok (.putfield 14, 3) := by decide +kernel
theorem dX2_init_18 : decode cX2_init 18 = .ok (.aload_n 0, 1) := by decide +kernel
theorem dX2_init_19 : decode cX2_init 19 = .ok (.new 9, 3) := by decide +kernel
theorem dX2_init_22 : decode cX2_init 22 = .ok (.dup, 1) := by decide +kernel
theorem dX2_init_23 : decode cX2_init 23 = .ok (.sipush 400, 3) := by decide +kernel
theorem dX2_init_26 : decode cX2_init 26 = .ok (.iconst 2, 1) := by decide +kernel
theorem dX2_init_27 : decode cX2_init 27 = .ok (.invokespecial 11, 3) := by decide +kernel
theorem dX2_init_30 : decode cX2_init 30 = .ok (.putfield 20, 3) := by decide +kernel
theorem dX2_init_33 : decode cX2_init 33 = .ok (.aload_n 0, 1) := by decide +kernel
theorem dX2_init_34 : decode cX2_init 34 = .ok (.bipush 32, 2) := by decide +kernel
theorem dX2_init_36 : decode cX2_init 36 = .ok (.newarray .int, 2) := by decide +kernel
theorem dX2_init_38 : decode cX2_init 38 = .ok (.putfield 23, 3) := by decide +kernel
theorem dX2_init_41 : decode cX2_init 41 = .ok (.return_, 1) := by decide +kernel
theorem dX2_copyFrom_0 : decode cX2_copyFrom 0 = .ok (.aload_n 0, 1) := by decide +kernel
theorem dX2_copyFrom_1 : decode cX2_copyFrom 1 = .ok (.getfield 14, 3) := by decide +kernel
theorem dX2_copyFrom_4 : decode cX2_copyFrom 4 = .ok (.aload_n 1, 1) := by decide +kernel
theorem dX2_copyFrom_5 : decode cX2_copyFrom 5 = .ok (.getfield 14, 3) := by decide +kernel
theorem dX2_copyFrom_8 : decode cX2_copyFrom 8 = .ok (.invokevirtual 27, 3) := by decide +kernel
theorem dX2_copyFrom_11 : decode cX2_copyFrom 11 = .ok (.aload_n 0, 1) := by decide +kernel
theorem dX2_copyFrom_12 : decode cX2_copyFrom 12 = .ok (.getfield 20, 3) := by decide +kernel
theorem dX2_copyFrom_15 : decode cX2_copyFrom 15 = .ok (.aload_n 1, 1) := by decide +kernel
theorem dX2_copyFrom_16 : decode cX2_copyFrom 16 = .ok (.getfield 20, 3) := by decide +kernel
theorem dX2_copyFrom_19 : decode cX2_copyFrom 19 = .ok (.invokevirtual 27, 3) := by decide +kernel
theorem dX2_copyFrom_22 : decode cX2_copyFrom 22 = .ok (.return_, 1) := by decide +kernel
theorem dX2_lineFor_0 : decode cX2_lineFor 0 = .ok (.iconst 0, 1) := by decide +kernel
theorem dX2_lineFor_1 : decode cX2_lineFor 1 = .ok (.istore_n 3, 1) := by decide +kernel
theorem dX2_lineFor_2 : decode cX2_lineFor 2 = .ok (.iload_n 3, 1) := by decide +kernel
theorem dX2_lineFor_3 : decode cX2_lineFor 3 = .ok (.aload_n 0, 1) := by decide +kernel
theorem dX2_lineFor_4 : decode cX2_lineFor 4 = .ok (.getfield 14, 3) := by decide +kernel
theorem dX2_lineFor_7 : decode cX2_lineFor 7 = .ok (.getfield 31, 3) := by decide +kernel
theorem dX2_lineFor_10 : decode cX2_lineFor 10 = .ok (.if_icmp .ge 65, 3) := by decide +kernel
theorem dX2_lineFor_13 : decode cX2_lineFor 13 = .ok (.aload_n 0, 1) := by decide +kernel
theorem dX2_lineFor_14 : decode cX2_lineFor 14 = .ok (.getfield 14, 3) := by decide +kernel
theorem dX2_lineFor_17 : decode cX2_lineFor 17 = .ok (.iload_n 3, 1) := by decide +kernel
theorem dX2_lineFor_18 : decode cX2_lineFor 18 = .ok (.iconst 0, 1) := by decide +kernel
theorem dX2_lineFor_19 : decode cX2_lineFor 19 = .ok (.invokevirtual 35, 3) := by decide +kernel
theorem dX2_lineFor_22 : decode cX2_lineFor 22 = .ok (.iload_n 1, 1) := by decide +kernel
theorem dX2_lineFor_23 : decode cX2_lineFor 23 = .ok (.if_icmp .ne 46, 3) := by decide +kernel
theorem dX2_lineFor_26 : decode cX2_lineFor 26 = .ok (.aload_n 0, 1) := by decide +kernel
theorem dX2_lineFor_27 : decode cX2_lineFor 27 = .ok (.getfield 14, 3) := by decide +kernel
theorem dX2_lineFor_30 : decode cX2_lineFor 30 = .ok (.iload_n 3, 1) := by decide +kernel
theorem dX2_lineFor_31 : decode cX2_lineFor 31 = .ok (.iconst 2, 1) := by decide +kernel
theorem dX2_lineFor_32 : decode cX2_lineFor 32 = .ok (.invokevirtual 35, 3) := by decide +kernel
theorem dX2_lineFor_35 : decode cX2_lineFor 35 = .ok (.istore 4, 2) := by decide +kernel
theorem dX2_lineFor_37 : decode cX2_lineFor 37 = .ok (.aload_n 0, 1) := by decide +kernel
theorem dX2_lineFor_38 : decode cX2_lineFor 38 = .ok (.getfield 14, 3) := by decide +kernel
theorem dX2_lineFor_41 : decode cX2_lineFor 41 = .ok (.iload_n 3, 1) := by decide +kernel
theorem dX2_lineFor_42 : decode cX2_lineFor 42 = .ok (.iconst 3, 1) := by decide +kernel
theorem dX2_lineFor_43 : decode cX2_lineFor 43 = .ok (.invokevirtual 35, 3) := by decide +kernel
theorem dX2_lineFor_46 : decode cX2_lineFor 46 = .ok (.istore 5, 2) := by decide +kernel
theorem dX2_lineFor_48 : decode cX2_lineFor 48 = .ok (.iload 4, 2) := by decide +kernel
theorem dX2_lineFor_50 : decode cX2_lineFor 50 = .ok (.iload 5, 2) := by decide +kernel
theorem dX2_lineFor_52 : decode cX2_lineFor 52 = .ok (.if_icmp .eq 15, 3) := by decide +kernel
theorem dX2_lineFor_55 : decode cX2_lineFor 55 = .ok (.aload_n 0, 1) := by decide +kernel
theorem dX2_lineFor_56 : decode cX2_lineFor 56 = .ok (.iload 4, 2) := by decide +kernel
theorem dX2_lineFor_58 : decode cX2_lineFor 58 = .ok (.iload 5, 2) := by decide +kernel
theorem dX2_lineFor_60 : decode cX2_lineFor 60 = .ok (.aload_n 2, 1) := by decide +kernel
theorem dX2_lineFor_61 : decode cX2_lineFor 61 = .ok (.invokevirtual 39, 3) := by decide +kernel
theorem dX2_lineFor_64 : decode cX2_lineFor 64 = .ok (.ifCond .eq 5, 3) := by decide +kernel
theorem dX2_lineFor_67 : decode cX2_lineFor 67 = .ok (.iload_n 3, 1) := by decide +kernel
theorem dX2_lineFor_68 : decode cX2_lineFor 68 = .ok (.ireturn, 1) := by decide +kernel
theorem dX2_lineFor_69 : decode cX2_lineFor 69 = .ok (.iinc 3 1, 3) := by decide +kernel
theorem dX2_lineFor_72 : decode cX2_lineFor 72 = .ok (.goto (-70), 3) := by decide +kernel
theorem dX2_lineFor_75 : decode cX2_lineFor 75 = .ok (.iconst (-1), 1) := by decide +kernel
theorem dX2_lineFor_76 : decode cX2_lineFor 76 = .ok (.ireturn, 1) := by decide +kernel
theorem dX2_amount_0 : decode cX2_amount 0 = .ok (.aload_n 0, 1) := by decide +kernel
theorem dX2_amount_1 : decode cX2_amount 1 = .ok (.aload_n 0, 1) := by decide +kernel
theorem dX2_amount_2 : decode cX2_amount 2 = .ok (.getfield 14, 3) := by decide +kernel
theorem dX2_amount_5 : decode cX2_amount 5 = .ok (.iload_n 1, 1) := by decide +kernel
theorem dX2_amount_6 : decode cX2_amount 6 = .ok (.iconst 1, 1) := by decide +kernel
theorem dX2_amount_7 : decode cX2_amount 7 = .ok (.invokevirtual 35, 3) := by decide +kernel
theorem dX2_amount_10 : decode cX2_amount 10 = .ok (.aload_n 0, 1) := by decide +kernel
theorem dX2_amount_11 : decode cX2_amount 11 = .ok (.getfield 14, 3) := by decide +kernel
theorem dX2_amount_14 : decode cX2_amount 14 = .ok (.iload_n 1, 1) := by decide +kernel
theorem dX2_amount_15 : decode cX2_amount 15 = .ok (.iconst 2, 1) := by decide +kernel
theorem dX2_amount_16 : decode cX2_amount 16 = .ok (.invokevirtual 35, 3) := by decide +kernel
theorem dX2_amount_19 : decode cX2_amount 19 = .ok (.aload_n 2, 1) := by decide +kernel
theorem dX2_amount_20 : decode cX2_amount 20 = .ok (.invokevirtual 39, 3) := by decide +kernel
theorem dX2_amount_23 : decode cX2_amount 23 = .ok (.ireturn, 1) := by decide +kernel
theorem dX2_value_0 : decode cX2_value 0 = .ok (.iconst 0, 1) := by decide +kernel
theorem dX2_value_1 : decode cX2_value 1 = .ok (.istore 4, 2) := by decide +kernel
theorem dX2_value_3 : decode cX2_value 3 = .ok (.iload_n 1, 1) := by decide +kernel
theorem dX2_value_4 : decode cX2_value 4 = .ok (.istore 5, 2) := by decide +kernel
theorem dX2_value_6 : decode cX2_value 6 = .ok (.iload 5, 2) := by decide +kernel
theorem dX2_value_8 : decode cX2_value 8 = .ok (.iload_n 2, 1) := by decide +kernel
theorem dX2_value_9 : decode cX2_value 9 = .ok (.if_icmp .ge 159, 3) := by decide +kernel
theorem dX2_value_12 : decode cX2_value 12 = .ok (.aload_n 0, 1) := by decide +kernel
theorem dX2_value_13 : decode cX2_value 13 = .ok (.getfield 20, 3) := by decide +kernel
theorem dX2_value_16 : decode cX2_value 16 = .ok (.iload 5, 2) := by decide +kernel
theorem dX2_value_18 : decode cX2_value 18 = .ok (.iconst 0, 1) := by decide +kernel
theorem dX2_value_19 : decode cX2_value 19 = .ok (.invokevirtual 35, 3) := by decide +kernel
theorem dX2_value_22 : decode cX2_value 22 = .ok (.istore 6, 2) := by decide +kernel
theorem dX2_value_24 : decode cX2_value 24 = .ok (.iload 6, 2) := by decide +kernel
theorem dX2_value_26 : decode cX2_value 26 = .ok (.iconst 2, 1) := by decide +kernel
theorem dX2_value_27 : decode cX2_value 27 = .ok (.if_icmp .eq 11, 3) := by decide +kernel
theorem dX2_value_30 : decode cX2_value 30 = .ok (.iload 6, 2) := by decide +kernel
theorem dX2_value_32 : decode cX2_value 32 = .ok (.invokestatic 45, 3) := by decide +kernel
theorem dX2_value_35 : decode cX2_value 35 = .ok (.ifCond .eq 51, 3) := by decide +kernel
theorem dX2_value_38 : decode cX2_value 38 = .ok (.iload 4, 2) := by decide +kernel
theorem dX2_value_40 : decode cX2_value 40 = .ok (.bipush 32, 2) := by decide +kernel
theorem dX2_value_42 : decode cX2_value 42 = .ok (.if_icmp .ge 120, 3) := by decide +kernel
theorem dX2_value_45 : decode cX2_value 45 = .ok (.aload_n 0, 1) := by decide +kernel
theorem dX2_value_46 : decode cX2_value 46 = .ok (.getfield 23, 3) := by decide +kernel
theorem dX2_value_49 : decode cX2_value 49 = .ok (.iload 4, 2) := by decide +kernel
theorem dX2_value_51 : decode cX2_value 51 = .ok (.iload 6, 2) := by decide +kernel
theorem dX2_value_53 : decode cX2_value 53 = .ok (.iconst 2, 1) := by decide +kernel
theorem dX2_value_54 : decode cX2_value 54 = .ok (.if_icmp .ne 16, 3) := by decide +kernel
theorem dX2_value_57 : decode cX2_value 57 = .ok (.aload_n 0, 1) := by decide +kernel
theorem dX2_value_58 : decode cX2_value 58 = .ok (.getfield 20, 3) := by decide +kernel
theorem dX2_value_61 : decode cX2_value 61 = .ok (.iload 5, 2) := by decide +kernel
theorem dX2_value_63 : decode cX2_value 63 = .ok (.iconst 1, 1) := by decide +kernel
theorem dX2_value_64 : decode cX2_value 64 = .ok (.invokevirtual 35, 3) := by decide +kernel
theorem dX2_value_67 : decode cX2_value 67 = .ok (.goto 12, 3) := by decide +kernel
theorem dX2_value_70 : decode cX2_value 70 = .ok (.aload_n 3, 1) := by decide +kernel
theorem dX2_value_71 : decode cX2_value 71 = .ok (.iload 6, 2) := by decide +kernel
theorem dX2_value_73 : decode cX2_value 73 = .ok (.bipush 20, 2) := by decide +kernel
theorem dX2_value_75 : decode cX2_value 75 = .ok (.isub, 1) := by decide +kernel
theorem dX2_value_76 : decode cX2_value 76 = .ok (.invokestatic 49, 3) := by decide +kernel
theorem dX2_value_79 : decode cX2_value 79 = .ok (.iastore, 1) := by decide +kernel
theorem dX2_value_80 : decode cX2_value 80 = .ok (.iinc 4 1, 3) := by decide +kernel
theorem dX2_value_83 : decode cX2_value 83 = .ok (.goto 79, 3) := by decide +kernel
theorem dX2_value_86 : decode cX2_value 86 = .ok (.iload 6, 2) := by decide +kernel
theorem dX2_value_88 : decode cX2_value 88 = .ok (.bipush 19, 2) := by decide +kernel
theorem dX2_value_90 : decode cX2_value 90 = .ok (.if_icmp .ne 31, 3) := by decide +kernel
theorem dX2_value_93 : decode cX2_value 93 = .ok (.iload 4, 2) := by decide +kernel
theorem dX2_value_95 : decode cX2_value 95 = .ok (.ifCond .le 67, 3) := by decide +kernel
theorem dX2_value_98 : decode cX2_value 98 = .ok (.aload_n 0, 1) := by decide +kernel
theorem dX2_value_99 : decode cX2_value 99 = .ok (.getfield 23, 3) := by decide +kernel
theorem dX2_value_102 : decode cX2_value 102 = .ok (.iload 4, 2) := by decide +kernel
theorem dX2_value_104 : decode cX2_value 104 = .ok (.iconst 1, 1) := by decide +kernel
theorem dX2_value_105 : decode cX2_value 105 = .ok (.isub, 1) := by decide +kernel
theorem dX2_value_106 : decode cX2_value 106 = .ok (.iconst 1, 1) := by decide +kernel
theorem dX2_value_107 : decode cX2_value 107 = .ok (.aload_n 0, 1) := by decide +kernel
theorem dX2_value_108 : decode cX2_value 108 = .ok (.getfield 23, 3) := by decide +kernel
theorem dX2_value_111 : decode cX2_value 111 = .ok (.iload 4, 2) := by decide +kernel
theorem dX2_value_113 : decode cX2_value 113 = .ok (.iconst 1, 1) := by decide +kernel
theorem dX2_value_114 : decode cX2_value 114 = .ok (.isub, 1) := by decide +kernel
theorem dX2_value_115 : decode cX2_value 115 = .ok (.iaload, 1) := by decide +kernel
theorem dX2_value_116 : decode cX2_value 116 = .ok (.isub, 1) := by decide +kernel
theorem dX2_value_117 : decode cX2_value 117 = .ok (.iastore, 1) := by decide +kernel
theorem dX2_value_118 : decode cX2_value 118 = .ok (.goto 44, 3) := by decide +kernel
theorem dX2_value_121 : decode cX2_value 121 = .ok (.iload 4, 2) := by decide +kernel
theorem dX2_value_123 : decode cX2_value 123 = .ok (.iconst 1, 1) := by decide +kernel
theorem dX2_value_124 : decode cX2_value 124 = .ok (.if_icmp .le 38, 3) := by decide +kernel
theorem dX2_value_127 : decode cX2_value 127 = .ok (.aload_n 0, 1) := by decide +kernel
theorem dX2_value_128 : decode cX2_value 128 = .ok (.getfield 23, 3) := by decide +kernel
theorem dX2_value_131 : decode cX2_value 131 = .ok (.iload 4, 2) := by decide +kernel
theorem dX2_value_133 : decode cX2_value 133 = .ok (.iconst 2, 1) := by decide +kernel
theorem dX2_value_134 : decode cX2_value 134 = .ok (.isub, 1) := by decide +kernel
theorem dX2_value_135 : decode cX2_value 135 = .ok (.iload 6, 2) := by decide +kernel
theorem dX2_value_137 : decode cX2_value 137 = .ok (.aload_n 0, 1) := by decide +kernel
theorem dX2_value_138 : decode cX2_value 138 = .ok (.getfield 23, 3) := by decide +kernel
theorem dX2_value_141 : decode cX2_value 141 = .ok (.iload 4, 2) := by decide +kernel
theorem dX2_value_143 : decode cX2_value 143 = .ok (.iconst 2, 1) := by decide +kernel
theorem dX2_value_144 : decode cX2_value 144 = .ok (.isub, 1) := by decide +kernel
theorem dX2_value_145 : decode cX2_value 145 = .ok (.iaload, 1) := by decide +kernel
theorem dX2_value_146 : decode cX2_value 146 = .ok (.aload_n 0, 1) := by decide +kernel
theorem dX2_value_147 : decode cX2_value 147 = .ok (.getfield 23, 3) := by decide +kernel
theorem dX2_value_150 : decode cX2_value 150 = .ok (.iload 4, 2) := by decide +kernel
theorem dX2_value_152 : decode cX2_value 152 = .ok (.iconst 1, 1) := by decide +kernel
theorem dX2_value_153 : decode cX2_value 153 = .ok (.isub, 1) := by decide +kernel
theorem dX2_value_154 : decode cX2_value 154 = .ok (.iaload, 1) := by decide +kernel
theorem dX2_value_155 : decode cX2_value 155 = .ok (.invokestatic 53, 3) := by decide +kernel
theorem dX2_value_158 : decode cX2_value 158 = .ok (.iastore, 1) := by decide +kernel
theorem dX2_value_159 : decode cX2_value 159 = .ok (.iinc 4 (-1), 3) := by decide +kernel
theorem dX2_value_162 : decode cX2_value 162 = .ok (.iinc 5 1, 3) := by decide +kernel
theorem dX2_value_165 : decode cX2_value 165 = .ok (.goto (-159), 3) := by decide +kernel
theorem dX2_value_168 : decode cX2_value 168 = .ok (.iload 4, 2) := by decide +kernel
theorem dX2_value_170 : decode cX2_value 170 = .ok (.ifCond .le 15, 3) := by decide +kernel
theorem dX2_value_173 : decode cX2_value 173 = .ok (.aload_n 0, 1) := by decide +kernel
theorem dX2_value_174 : decode cX2_value 174 = .ok (.getfield 23, 3) := by decide +kernel
theorem dX2_value_177 : decode cX2_value 177 = .ok (.iload 4, 2) := by decide +kernel
theorem dX2_value_179 : decode cX2_value 179 = .ok (.iconst 1, 1) := by decide +kernel
theorem dX2_value_180 : decode cX2_value 180 = .ok (.isub, 1) := by decide +kernel
theorem dX2_value_181 : decode cX2_value 181 = .ok (.iaload, 1) := by decide +kernel
theorem dX2_value_182 : decode cX2_value 182 = .ok (.goto 4, 3) := by decide +kernel
theorem dX2_value_185 : decode cX2_value 185 = .ok (.iconst 0, 1) := by decide +kernel
theorem dX2_value_186 : decode cX2_value 186 = .ok (.ireturn, 1) := by decide +kernel
theorem dX2_joined_0 : decode cX2_joined 0 = .ok (.iload_n 0, 1) := by decide +kernel
theorem dX2_joined_1 : decode cX2_joined 1 = .ok (.tableswitch 136 4 18 #[75, 79, 83, 87, 136, 136, 99, 110, 121, 136, 136, 136, 136, 136, 132], 75) := by decide +kernel
theorem dX2_joined_76 : decode cX2_joined 76 = .ok (.iload_n 1, 1) := by decide +kernel
theorem dX2_joined_77 : decode cX2_joined 77 = .ok (.iload_n 2, 1) := by decide +kernel
theorem dX2_joined_78 : decode cX2_joined 78 = .ok (.iadd, 1) := by decide +kernel
theorem dX2_joined_79 : decode cX2_joined 79 = .ok (.ireturn, 1) := by decide +kernel
theorem dX2_joined_80 : decode cX2_joined 80 = .ok (.iload_n 1, 1) := by decide +kernel
theorem dX2_joined_81 : decode cX2_joined 81 = .ok (.iload_n 2, 1) := by decide +kernel
theorem dX2_joined_82 : decode cX2_joined 82 = .ok (.isub, 1) := by decide +kernel
theorem dX2_joined_83 : decode cX2_joined 83 = .ok (.ireturn, 1) := by decide +kernel
theorem dX2_joined_84 : decode cX2_joined 84 = .ok (.iload_n 1, 1) := by decide +kernel
theorem dX2_joined_85 : decode cX2_joined 85 = .ok (.iload_n 2, 1) := by decide +kernel
theorem dX2_joined_86 : decode cX2_joined 86 = .ok (.imul, 1) := by decide +kernel
theorem dX2_joined_87 : decode cX2_joined 87 = .ok (.ireturn, 1) := by decide +kernel
theorem dX2_joined_88 : decode cX2_joined 88 = .ok (.iload_n 2, 1) := by decide +kernel
theorem dX2_joined_89 : decode cX2_joined 89 = .ok (.ifCond .eq 9, 3) := by decide +kernel
theorem dX2_joined_92 : decode cX2_joined 92 = .ok (.iload_n 1, 1) := by decide +kernel
theorem dX2_joined_93 : decode cX2_joined 93 = .ok (.iload_n 2, 1) := by decide +kernel
theorem dX2_joined_94 : decode cX2_joined 94 = .ok (.idiv, 1) := by decide +kernel
theorem dX2_joined_95 : decode cX2_joined 95 = .ok (.goto 4, 3) := by decide +kernel
theorem dX2_joined_98 : decode cX2_joined 98 = .ok (.iconst 0, 1) := by decide +kernel
theorem dX2_joined_99 : decode cX2_joined 99 = .ok (.ireturn, 1) := by decide +kernel
theorem dX2_joined_100 : decode cX2_joined 100 = .ok (.iload_n 1, 1) := by decide +kernel
theorem dX2_joined_101 : decode cX2_joined 101 = .ok (.iload_n 2, 1) := by decide +kernel
theorem dX2_joined_102 : decode cX2_joined 102 = .ok (.if_icmp .ge 7, 3) := by decide +kernel
theorem dX2_joined_105 : decode cX2_joined 105 = .ok (.iconst 1, 1) := by decide +kernel
theorem dX2_joined_106 : decode cX2_joined 106 = .ok (.goto 4, 3) := by decide +kernel
theorem dX2_joined_109 : decode cX2_joined 109 = .ok (.iconst 0, 1) := by decide +kernel
theorem dX2_joined_110 : decode cX2_joined 110 = .ok (.ireturn, 1) := by decide +kernel
theorem dX2_joined_111 : decode cX2_joined 111 = .ok (.iload_n 1, 1) := by decide +kernel
theorem dX2_joined_112 : decode cX2_joined 112 = .ok (.iload_n 2, 1) := by decide +kernel
theorem dX2_joined_113 : decode cX2_joined 113 = .ok (.if_icmp .ne 7, 3) := by decide +kernel
theorem dX2_joined_116 : decode cX2_joined 116 = .ok (.iconst 1, 1) := by decide +kernel
theorem dX2_joined_117 : decode cX2_joined 117 = .ok (.goto 4, 3) := by decide +kernel
theorem dX2_joined_120 : decode cX2_joined 120 = .ok (.iconst 0, 1) := by decide +kernel
theorem dX2_joined_121 : decode cX2_joined 121 = .ok (.ireturn, 1) := by decide +kernel
theorem dX2_joined_122 : decode cX2_joined 122 = .ok (.iload_n 1, 1) := by decide +kernel
theorem dX2_joined_123 : decode cX2_joined 123 = .ok (.iload_n 2, 1) := by decide +kernel
theorem dX2_joined_124 : decode cX2_joined 124 = .ok (.if_icmp .le 7, 3) := by decide +kernel
theorem dX2_joined_127 : decode cX2_joined 127 = .ok (.iconst 1, 1) := by decide +kernel
theorem dX2_joined_128 : decode cX2_joined 128 = .ok (.goto 4, 3) := by decide +kernel
theorem dX2_joined_131 : decode cX2_joined 131 = .ok (.iconst 0, 1) := by decide +kernel
theorem dX2_joined_132 : decode cX2_joined 132 = .ok (.ireturn, 1) := by decide +kernel
theorem dX2_joined_133 : decode cX2_joined 133 = .ok (.iload_n 1, 1) := by decide +kernel
theorem dX2_joined_134 : decode cX2_joined 134 = .ok (.iload_n 2, 1) := by decide +kernel
theorem dX2_joined_135 : decode cX2_joined 135 = .ok (.iand, 1) := by decide +kernel
theorem dX2_joined_136 : decode cX2_joined 136 = .ok (.ireturn, 1) := by decide +kernel
theorem dX2_joined_137 : decode cX2_joined 137 = .ok (.iload_n 1, 1) := by decide +kernel
theorem dX2_joined_138 : decode cX2_joined 138 = .ok (.iload_n 2, 1) := by decide +kernel
theorem dX2_joined_139 : decode cX2_joined 139 = .ok (.ior, 1) := by decide +kernel
theorem dX2_joined_140 : decode cX2_joined 140 = .ok (.ireturn, 1) := by decide +kernel
theorem dX3_init_0 : decode cX3_init 0 = .ok (.aload_n 0, 1) := by decide +kernel
theorem dX3_init_1 : decode cX3_init 1 = .ok (.invokespecial 3, 3) := by decide +kernel
theorem dX3_init_4 : decode cX3_init 4 = .ok (.aload_n 0, 1) := by decide +kernel
theorem dX3_init_5 : decode cX3_init 5 = .ok (.sipush 4096, 3) := by decide +kernel
theorem dX3_init_8 : decode cX3_init 8 = .ok (.newarray .int, 2) := by decide +kernel
theorem dX3_init_10 : decode cX3_init 10 = .ok (.putfield 11, 3) := by decide +kernel
theorem dX3_init_13 : decode cX3_init 13 = .ok (.return_, 1) := by decide +kernel
theorem dX3_winningStart_0 : decode cX3_winningStart 0 = .ok (.ldc 15, 2) := by decide +kernel
theorem dX3_winningStart_2 : decode cX3_winningStart 2 = .ok (.istore 4, 2) := by decide +kernel
theorem dX3_winningStart_4 : decode cX3_winningStart 4 = .ok (.iconst 0, 1) := by decide +kernel
theorem dX3_winningStart_5 : decode cX3_winningStart 5 = .ok (.istore 5, 2) := by decide +kernel
theorem dX3_winningStart_7 : decode cX3_winningStart 7 = .ok (.iload 5, 2) := by decide +kernel
theorem dX3_winningStart_9 : decode cX3_winningStart 9 = .ok (.iload_n 1, 1) := by decide +kernel
theorem dX3_winningStart_10 : decode cX3_winningStart 10 = .ok (.iload_n 2, 1) := by decide +kernel
theorem dX3_winningStart_11 : decode cX3_winningStart 11 = .ok (.imul, 1) := by decide +kernel
theorem dX3_winningStart_12 : decode cX3_winningStart 12 = .ok (.if_icmp .ge 38, 3) := by decide +kernel
theorem dX3_winningStart_15 : decode cX3_winningStart 15 = .ok (.iload_n 3, 1) := by decide +kernel
theorem dX3_winningStart_16 : decode cX3_winningStart 16 = .ok (.iload 5, 2) := by decide +kernel
theorem dX3_winningStart_18 : decode cX3_winningStart 18 = .ok (.ishr, 1) := by decide +kernel
theorem dX3_winningStart_19 : decode cX3_winningStart 19 = .ok (.iconst 1, 1) := by decide +kernel
theorem dX3_winningStart_20 : decode cX3_winningStart 20 = .ok (.iand, 1) := by decide +kernel
theorem dX3_winningStart_21 : decode cX3_winningStart 21 = .ok (.ifCond .ne 23, 3) := by decide +kernel
theorem dX3_winningStart_24 : decode cX3_winningStart 24 = .ok (.iload 4, 2) := by decide +kernel
theorem dX3_winningStart_26 : decode cX3_winningStart 26 = .ok (.iconst 1, 1) := by decide +kernel
theorem dX3_winningStart_27 : decode cX3_winningStart 27 = .ok (.iload 5, 2) := by decide +kernel
theorem dX3_winningStart_29 : decode cX3_winningStart 29 = .ok (.iload_n 1, 1) := by decide +kernel
theorem dX3_winningStart_30 : decode cX3_winningStart 30 = .ok (.idiv, 1) := by decide +kernel
theorem dX3_winningStart_31 : decode cX3_winningStart 31 = .ok (.iconst 4, 1) := by decide +kernel
theorem dX3_winningStart_32 : decode cX3_winningStart 32 = .ok (.imul, 1) := by decide +kernel
theorem dX3_winningStart_33 : decode cX3_winningStart 33 = .ok (.iload 5, 2) := by decide +kernel
theorem dX3_winningStart_35 : decode cX3_winningStart 35 = .ok (.iload_n 1, 1) := by decide +kernel
theorem dX3_winningStart_36 : decode cX3_winningStart 36 = .ok (.irem, 1) := by decide +kernel
theorem dX3_winningStart_37 : decode cX3_winningStart 37 = .ok (.iadd, 1) := by decide +kernel
theorem dX3_winningStart_38 : decode cX3_winningStart 38 = .ok (.ishl, 1) := by decide +kernel
theorem dX3_winningStart_39 : decode cX3_winningStart 39 = .ok (.iconst (-1), 1) := by decide +kernel
theorem dX3_winningStart_40 : decode cX3_winningStart 40 = .ok (.ixor, 1) := by decide +kernel
theorem dX3_winningStart_41 : decode cX3_winningStart 41 = .ok (.iand, 1) := by decide +kernel
theorem dX3_winningStart_42 : decode cX3_winningStart 42 = .ok (.istore 4, 2) := by decide +kernel
theorem dX3_winningStart_44 : decode cX3_winningStart 44 = .ok (.iinc 5 1, 3) := by decide +kernel
theorem dX3_winningStart_47 : decode cX3_winningStart 47 = .ok (.goto (-40), 3) := by decide +kernel
theorem dX3_winningStart_50 : decode cX3_winningStart 50 = .ok (.iconst 0, 1) := by decide +kernel
theorem dX3_winningStart_51 : decode cX3_winningStart 51 = .ok (.istore 5, 2) := by decide +kernel
theorem dX3_winningStart_53 : decode cX3_winningStart 53 = .ok (.iload 5, 2) := by decide +kernel
theorem dX3_winningStart_55 : decode cX3_winningStart 55 = .ok (.iconst 2, 1) := by decide +kernel
theorem dX3_winningStart_56 : decode cX3_winningStart 56 = .ok (.iload_n 1, 1) := by decide +kernel
theorem dX3_winningStart_57 : decode cX3_winningStart 57 = .ok (.imul, 1) := by decide +kernel
theorem dX3_winningStart_58 : decode cX3_winningStart 58 = .ok (.iload_n 2, 1) := by decide +kernel
theorem dX3_winningStart_59 : decode cX3_winningStart 59 = .ok (.imul, 1) := by decide +kernel
theorem dX3_winningStart_60 : decode cX3_winningStart 60 = .ok (.if_icmp .ge 67, 3) := by decide +kernel
theorem dX3_winningStart_63 : decode cX3_winningStart 63 = .ok (.iload 5, 2) := by decide +kernel
theorem dX3_winningStart_65 : decode cX3_winningStart 65 = .ok (.iconst 2, 1) := by decide +kernel
theorem dX3_winningStart_66 : decode cX3_winningStart 66 = .ok (.idiv, 1) := by decide +kernel
theorem dX3_winningStart_67 : decode cX3_winningStart 67 = .ok (.istore 6, 2) := by decide +kernel
theorem dX3_winningStart_69 : decode cX3_winningStart 69 = .ok (.iload 6, 2) := by decide +kernel
theorem dX3_winningStart_71 : decode cX3_winningStart 71 = .ok (.iload_n 1, 1) := by decide +kernel
theorem dX3_winningStart_72 : decode cX3_winningStart 72 = .ok (.idiv, 1) := by decide +kernel
theorem dX3_winningStart_73 : decode cX3_winningStart 73 = .ok (.iconst 4, 1) := by decide +kernel
theorem dX3_winningStart_74 : decode cX3_winningStart 74 = .ok (.imul, 1) := by decide +kernel
theorem dX3_winningStart_75 : decode cX3_winningStart 75 = .ok (.iload 6, 2) := by decide +kernel
theorem dX3_winningStart_77 : decode cX3_winningStart 77 = .ok (.iload_n 1, 1) := by decide +kernel
theorem dX3_winningStart_78 : decode cX3_winningStart 78 = .ok (.irem, 1) := by decide +kernel
theorem dX3_winningStart_79 : decode cX3_winningStart 79 = .ok (.iadd, 1) := by decide +kernel
theorem dX3_winningStart_80 : decode cX3_winningStart 80 = .ok (.iload 5, 2) := by decide +kernel
theorem dX3_winningStart_82 : decode cX3_winningStart 82 = .ok (.iconst 2, 1) := by decide +kernel
theorem dX3_winningStart_83 : decode cX3_winningStart 83 = .ok (.irem, 1) := by decide +kernel
theorem dX3_winningStart_84 : decode cX3_winningStart 84 = .ok (.invokestatic 16, 3) := by decide +kernel
theorem dX3_winningStart_87 : decode cX3_winningStart 87 = .ok (.istore 7, 2) := by decide +kernel
theorem dX3_winningStart_89 : decode cX3_winningStart 89 = .ok (.iload 7, 2) := by decide +kernel
theorem dX3_winningStart_91 : decode cX3_winningStart 91 = .ok (.ifCond .eq 30, 3) := by decide +kernel
theorem dX3_winningStart_94 : decode cX3_winningStart 94 = .ok (.iload 4, 2) := by decide +kernel
theorem dX3_winningStart_96 : decode cX3_winningStart 96 = .ok (.iload 7, 2) := by decide +kernel
theorem dX3_winningStart_98 : decode cX3_winningStart 98 = .ok (.iand, 1) := by decide +kernel
theorem dX3_winningStart_99 : decode cX3_winningStart 99 = .ok (.ifCond .ne 22, 3) := by decide +kernel
theorem dX3_winningStart_102 : decode cX3_winningStart 102 = .ok (.aload_n 0, 1) := by decide +kernel
theorem dX3_winningStart_103 : decode cX3_winningStart 103 = .ok (.getfield 11, 3) := by decide +kernel
theorem dX3_winningStart_106 : decode cX3_winningStart 106 = .ok (.iload 4, 2) := by decide +kernel
theorem dX3_winningStart_108 : decode cX3_winningStart 108 = .ok (.iload 7, 2) := by decide +kernel
theorem dX3_winningStart_110 : decode cX3_winningStart 110 = .ok (.ior, 1) := by decide +kernel
theorem dX3_winningStart_111 : decode cX3_winningStart 111 = .ok (.iconst 1, 1) := by decide +kernel
theorem dX3_winningStart_112 : decode cX3_winningStart 112 = .ok (.invokestatic 20, 3) := by decide +kernel
theorem dX3_winningStart_115 : decode cX3_winningStart 115 = .ok (.ifCond .ne 6, 3) := by decide +kernel
theorem dX3_winningStart_118 : decode cX3_winningStart 118 = .ok (.iload 5, 2) := by decide +kernel
theorem dX3_winningStart_120 : decode cX3_winningStart 120 = .ok (.ireturn, 1) := by decide +kernel
theorem dX3_winningStart_121 : decode cX3_winningStart 121 = .ok (.iinc 5 1, 3) := by decide +kernel
theorem dX3_winningStart_124 : decode cX3_winningStart 124 = .ok (.goto (-71), 3) := by decide +kernel
theorem dX3_winningStart_127 : decode cX3_winningStart 127 = .ok (.iconst (-1), 1) := by decide +kernel
theorem dX3_winningStart_128 : decode cX3_winningStart 128 = .ok (.ireturn, 1) := by decide +kernel
theorem dX3_wins_0 : decode cX3_wins 0 = .ok (.iload_n 1, 1) := by decide +kernel
theorem dX3_wins_1 : decode cX3_wins 1 = .ok (.iconst 4, 1) := by decide +kernel
theorem dX3_wins_2 : decode cX3_wins 2 = .ok (.ishr, 1) := by decide +kernel
theorem dX3_wins_3 : decode cX3_wins 3 = .ok (.istore_n 3, 1) := by decide +kernel
theorem dX3_wins_4 : decode cX3_wins 4 = .ok (.iload_n 3, 1) := by decide +kernel
theorem dX3_wins_5 : decode cX3_wins 5 = .ok (.ifCond .lt 9, 3) := by decide +kernel
theorem dX3_wins_8 : decode cX3_wins 8 = .ok (.iload_n 3, 1) := by decide +kernel
theorem dX3_wins_9 : decode cX3_wins 9 = .ok (.aload_n 0, 1) := by decide +kernel
theorem dX3_wins_10 : decode cX3_wins 10 = .ok (.arraylength, 1) := by decide +kernel
theorem dX3_wins_11 : decode cX3_wins 11 = .ok (.if_icmp .lt 5, 3) := by decide +kernel
theorem dX3_wins_14 : decode cX3_wins 14 = .ok (.iconst 0, 1) := by decide +kernel
theorem dX3_wins_15 : decode cX3_wins 15 = .ok (.ireturn, 1) := by decide +kernel
theorem dX3_wins_16 : decode cX3_wins 16 = .ok (.iload_n 1, 1) := by decide +kernel
theorem dX3_wins_17 : decode cX3_wins 17 = .ok (.bipush 15, 2) := by decide +kernel
theorem dX3_wins_19 : decode cX3_wins 19 = .ok (.iand, 1) := by decide +kernel
theorem dX3_wins_20 : decode cX3_wins 20 = .ok (.iconst 2, 1) := by decide +kernel
theorem dX3_wins_21 : decode cX3_wins 21 = .ok (.imul, 1) := by decide +kernel
theorem dX3_wins_22 : decode cX3_wins 22 = .ok (.istore 4, 2) := by decide +kernel
theorem dX3_wins_24 : decode cX3_wins 24 = .ok (.aload_n 0, 1) := by decide +kernel
theorem dX3_wins_25 : decode cX3_wins 25 = .ok (.iload_n 3, 1) := by decide +kernel
theorem dX3_wins_26 : decode cX3_wins 26 = .ok (.iaload, 1) := by decide +kernel
theorem dX3_wins_27 : decode cX3_wins 27 = .ok (.iload 4, 2) := by decide +kernel
theorem dX3_wins_29 : decode cX3_wins 29 = .ok (.iushr, 1) := by decide +kernel
theorem dX3_wins_30 : decode cX3_wins 30 = .ok (.iconst 3, 1) := by decide +kernel
theorem dX3_wins_31 : decode cX3_wins 31 = .ok (.iand, 1) := by decide +kernel
theorem dX3_wins_32 : decode cX3_wins 32 = .ok (.istore 5, 2) := by decide +kernel
theorem dX3_wins_34 : decode cX3_wins 34 = .ok (.iload 5, 2) := by decide +kernel
theorem dX3_wins_36 : decode cX3_wins 36 = .ok (.ifCond .eq 15, 3) := by decide +kernel
theorem dX3_wins_39 : decode cX3_wins 39 = .ok (.iload 5, 2) := by decide +kernel
theorem dX3_wins_41 : decode cX3_wins 41 = .ok (.iconst 2, 1) := by decide +kernel
theorem dX3_wins_42 : decode cX3_wins 42 = .ok (.if_icmp .ne 7, 3) := by decide +kernel
theorem dX3_wins_45 : decode cX3_wins 45 = .ok (.iconst 1, 1) := by decide +kernel
theorem dX3_wins_46 : decode cX3_wins 46 = .ok (.goto 4, 3) := by decide +kernel
theorem dX3_wins_49 : decode cX3_wins 49 = .ok (.iconst 0, 1) := by decide +kernel
theorem dX3_wins_50 : decode cX3_wins 50 = .ok (.ireturn, 1) := by decide +kernel
theorem dX3_wins_51 : decode cX3_wins 51 = .ok (.iconst 0, 1) := by decide +kernel
theorem dX3_wins_52 : decode cX3_wins 52 = .ok (.istore 6, 2) := by decide +kernel
theorem dX3_wins_54 : decode cX3_wins 54 = .ok (.iconst 0, 1) := by decide +kernel
theorem dX3_wins_55 : decode cX3_wins 55 = .ok (.istore 7, 2) := by decide +kernel
theorem dX3_wins_57 : decode cX3_wins 57 = .ok (.iload 7, 2) := by decide +kernel
theorem dX3_wins_59 : decode cX3_wins 59 = .ok (.bipush 32, 2) := by decide +kernel
theorem dX3_wins_61 : decode cX3_wins 61 = .ok (.if_icmp .ge 66, 3) := by decide +kernel
theorem dX3_wins_64 : decode cX3_wins 64 = .ok (.iload 6, 2) := by decide +kernel
theorem dX3_wins_66 : decode cX3_wins 66 = .ok (.ifCond .ne 61, 3) := by decide +kernel
theorem dX3_wins_69 : decode cX3_wins 69 = .ok (.iload_n 2, 1) := by decide +kernel
theorem dX3_wins_70 : decode cX3_wins 70 = .ok (.bipush 8, 2) := by decide +kernel
theorem dX3_wins_72 : decode cX3_wins 72 = .ok (.if_icmp .ge 55, 3) := by decide +kernel
theorem dX3_wins_75 : decode cX3_wins 75 = .ok (.iload 7, 2) := by decide +kernel
theorem dX3_wins_77 : decode cX3_wins 77 = .ok (.iconst 2, 1) := by decide +kernel
theorem dX3_wins_78 : decode cX3_wins 78 = .ok (.idiv, 1) := by decide +kernel
theorem dX3_wins_79 : decode cX3_wins 79 = .ok (.iload 7, 2) := by decide +kernel
theorem dX3_wins_81 : decode cX3_wins 81 = .ok (.iconst 2, 1) := by decide +kernel
theorem dX3_wins_82 : decode cX3_wins 82 = .ok (.irem, 1) := by decide +kernel
theorem dX3_wins_83 : decode cX3_wins 83 = .ok (.invokestatic 16, 3) := by decide +kernel
theorem dX3_wins_86 : decode cX3_wins 86 = .ok (.istore 8, 2) := by decide +kernel
theorem dX3_wins_88 : decode cX3_wins 88 = .ok (.iload 8, 2) := by decide +kernel
theorem dX3_wins_90 : decode cX3_wins 90 = .ok (.ifCond .eq 28, 3) := by decide +kernel
theorem dX3_wins_93 : decode cX3_wins 93 = .ok (.iload_n 1, 1) := by decide +kernel
theorem dX3_wins_94 : decode cX3_wins 94 = .ok (.iload 8, 2) := by decide +kernel
theorem dX3_wins_96 : decode cX3_wins 96 = .ok (.iand, 1) := by decide +kernel
theorem dX3_wins_97 : decode cX3_wins 97 = .ok (.ifCond .ne 21, 3) := by decide +kernel
theorem dX3_wins_100 : decode cX3_wins 100 = .ok (.aload_n 0, 1) := by decide +kernel
theorem dX3_wins_101 : decode cX3_wins 101 = .ok (.iload_n 1, 1) := by decide +kernel
theorem dX3_wins_102 : decode cX3_wins 102 = .ok (.iload 8, 2) := by decide +kernel
theorem dX3_wins_104 : decode cX3_wins 104 = .ok (.ior, 1) := by decide +kernel
theorem dX3_wins_105 : decode cX3_wins 105 = .ok (.iload_n 2, 1) := by decide +kernel
theorem dX3_wins_106 : decode cX3_wins 106 = .ok (.iconst 1, 1) := by decide +kernel
theorem dX3_wins_107 : decode cX3_wins 107 = .ok (.iadd, 1) := by decide +kernel
theorem dX3_wins_108 : decode cX3_wins 108 = .ok (.invokestatic 20, 3) := by decide +kernel
theorem dX3_wins_111 : decode cX3_wins 111 = .ok (.ifCond .ne 7, 3) := by decide +kernel
theorem dX3_wins_114 : decode cX3_wins 114 = .ok (.iconst 1, 1) := by decide +kernel
theorem dX3_wins_115 : decode cX3_wins 115 = .ok (.goto 4, 3) := by decide +kernel
theorem dX3_wins_118 : decode cX3_wins 118 = .ok (.iconst 0, 1) := by decide +kernel
theorem dX3_wins_119 : decode cX3_wins 119 = .ok (.istore 6, 2) := by decide +kernel
theorem dX3_wins_121 : decode cX3_wins 121 = .ok (.iinc 7 1, 3) := by decide +kernel
theorem dX3_wins_124 : decode cX3_wins 124 = .ok (.goto (-67), 3) := by decide +kernel
theorem dX3_wins_127 : decode cX3_wins 127 = .ok (.aload_n 0, 1) := by decide +kernel
theorem dX3_wins_128 : decode cX3_wins 128 = .ok (.iload_n 3, 1) := by decide +kernel
theorem dX3_wins_129 : decode cX3_wins 129 = .ok (.dup2, 1) := by decide +kernel
theorem dX3_wins_130 : decode cX3_wins 130 = .ok (.iaload, 1) := by decide +kernel
theorem dX3_wins_131 : decode cX3_wins 131 = .ok (.iload 6, 2) := by decide +kernel
theorem dX3_wins_133 : decode cX3_wins 133 = .ok (.ifCond .eq 7, 3) := by decide +kernel
theorem dX3_wins_136 : decode cX3_wins 136 = .ok (.iconst 2, 1) := by decide +kernel
theorem dX3_wins_137 : decode cX3_wins 137 = .ok (.goto 4, 3) := by decide +kernel
theorem dX3_wins_140 : decode cX3_wins 140 = .ok (.iconst 1, 1) := by decide +kernel
theorem dX3_wins_141 : decode cX3_wins 141 = .ok (.iload 4, 2) := by decide +kernel
theorem dX3_wins_143 : decode cX3_wins 143 = .ok (.ishl, 1) := by decide +kernel
theorem dX3_wins_144 : decode cX3_wins 144 = .ok (.ior, 1) := by decide +kernel
theorem dX3_wins_145 : decode cX3_wins 145 = .ok (.iastore, 1) := by decide +kernel
theorem dX3_wins_146 : decode cX3_wins 146 = .ok (.iload 6, 2) := by decide +kernel
theorem dX3_wins_148 : decode cX3_wins 148 = .ok (.ireturn, 1) := by decide +kernel
theorem dX3_twoAt_0 : decode cX3_twoAt 0 = .ok (.iload_n 1, 1) := by decide +kernel
theorem dX3_twoAt_1 : decode cX3_twoAt 1 = .ok (.iconst 1, 1) := by decide +kernel
theorem dX3_twoAt_2 : decode cX3_twoAt 2 = .ok (.if_icmp .ne 24, 3) := by decide +kernel
theorem dX3_twoAt_5 : decode cX3_twoAt 5 = .ok (.iload_n 0, 1) := by decide +kernel
theorem dX3_twoAt_6 : decode cX3_twoAt 6 = .ok (.iconst 4, 1) := by decide +kernel
theorem dX3_twoAt_7 : decode cX3_twoAt 7 = .ok (.idiv, 1) := by decide +kernel
theorem dX3_twoAt_8 : decode cX3_twoAt 8 = .ok (.iconst 3, 1) := by decide +kernel
theorem dX3_twoAt_9 : decode cX3_twoAt 9 = .ok (.if_icmp .ge 15, 3) := by decide +kernel
theorem dX3_twoAt_12 : decode cX3_twoAt 12 = .ok (.iconst 1, 1) := by decide +kernel
theorem dX3_twoAt_13 : decode cX3_twoAt 13 = .ok (.iload_n 0, 1) := by decide +kernel
theorem dX3_twoAt_14 : decode cX3_twoAt 14 = .ok (.ishl, 1) := by decide +kernel
theorem dX3_twoAt_15 : decode cX3_twoAt 15 = .ok (.iconst 1, 1) := by decide +kernel
theorem dX3_twoAt_16 : decode cX3_twoAt 16 = .ok (.iload_n 0, 1) := by decide +kernel
theorem dX3_twoAt_17 : decode cX3_twoAt 17 = .ok (.iconst 4, 1) := by decide +kernel
theorem dX3_twoAt_18 : decode cX3_twoAt 18 = .ok (.iadd, 1) := by decide +kernel
theorem dX3_twoAt_19 : decode cX3_twoAt 19 = .ok (.ishl, 1) := by decide +kernel
theorem dX3_twoAt_20 : decode cX3_twoAt 20 = .ok (.ior, 1) := by decide +kernel
theorem dX3_twoAt_21 : decode cX3_twoAt 21 = .ok (.goto 4, 3) := by decide +kernel
theorem dX3_twoAt_24 : decode cX3_twoAt 24 = .ok (.iconst 0, 1) := by decide +kernel
theorem dX3_twoAt_25 : decode cX3_twoAt 25 = .ok (.ireturn, 1) := by decide +kernel
theorem dX3_twoAt_26 : decode cX3_twoAt 26 = .ok (.iload_n 0, 1) := by decide +kernel
theorem dX3_twoAt_27 : decode cX3_twoAt 27 = .ok (.iconst 4, 1) := by decide +kernel
theorem dX3_twoAt_28 : decode cX3_twoAt 28 = .ok (.irem, 1) := by decide +kernel
theorem dX3_twoAt_29 : decode cX3_twoAt 29 = .ok (.iconst 3, 1) := by decide +kernel
theorem dX3_twoAt_30 : decode cX3_twoAt 30 = .ok (.if_icmp .ge 9, 3) := by decide +kernel
theorem dX3_twoAt_33 : decode cX3_twoAt 33 = .ok (.iconst 3, 1) := by decide +kernel
theorem dX3_twoAt_34 : decode cX3_twoAt 34 = .ok (.iload_n 0, 1) := by decide +kernel
theorem dX3_twoAt_35 : decode cX3_twoAt 35 = .ok (.ishl, 1) := by decide +kernel
theorem dX3_twoAt_36 : decode cX3_twoAt 36 = .ok (.goto 4, 3) := by decide +kernel
theorem dX3_twoAt_39 : decode cX3_twoAt 39 = .ok (.iconst 0, 1) := by decide +kernel
theorem dX3_twoAt_40 : decode cX3_twoAt 40 = .ok (.ireturn, 1) := by decide +kernel
theorem dX4_greatestPart_0 : decode cX4_greatestPart 0 = .ok (.iload_n 0, 1) := by decide +kernel
theorem dX4_greatestPart_1 : decode cX4_greatestPart 1 = .ok (.istore_n 2, 1) := by decide +kernel
theorem dX4_greatestPart_2 : decode cX4_greatestPart 2 = .ok (.iload_n 1, 1) := by decide +kernel
theorem dX4_greatestPart_3 : decode cX4_greatestPart 3 = .ok (.istore_n 3, 1) := by decide +kernel
theorem dX4_greatestPart_4 : decode cX4_greatestPart 4 = .ok (.iconst 0, 1) := by decide +kernel
theorem dX4_greatestPart_5 : decode cX4_greatestPart 5 = .ok (.istore 4, 2) := by decide +kernel
theorem dX4_greatestPart_7 : decode cX4_greatestPart 7 = .ok (.iload 4, 2) := by decide +kernel
theorem dX4_greatestPart_9 : decode cX4_greatestPart 9 = .ok (.bipush 64, 2) := by decide +kernel
theorem dX4_greatestPart_11 : decode cX4_greatestPart 11 = .ok (.if_icmp .ge 23, 3) := by decide +kernel
theorem dX4_greatestPart_14 : decode cX4_greatestPart 14 = .ok (.iload_n 3, 1) := by decide +kernel
theorem dX4_greatestPart_15 : decode cX4_greatestPart 15 = .ok (.ifCond .eq 19, 3) := by decide +kernel
theorem dX4_greatestPart_18 : decode cX4_greatestPart 18 = .ok (.iload_n 2, 1) := by decide +kernel
theorem dX4_greatestPart_19 : decode cX4_greatestPart 19 = .ok (.iload_n 3, 1) := by decide +kernel
theorem dX4_greatestPart_20 : decode cX4_greatestPart 20 = .ok (.irem, 1) := by decide +kernel
theorem dX4_greatestPart_21 : decode cX4_greatestPart 21 = .ok (.istore 5, 2) := by decide +kernel
theorem dX4_greatestPart_23 : decode cX4_greatestPart 23 = .ok (.iload_n 3, 1) := by decide +kernel
theorem dX4_greatestPart_24 : decode cX4_greatestPart 24 = .ok (.istore_n 2, 1) := by decide +kernel
theorem dX4_greatestPart_25 : decode cX4_greatestPart 25 = .ok (.iload 5, 2) := by decide +kernel
theorem dX4_greatestPart_27 : decode cX4_greatestPart 27 = .ok (.istore_n 3, 1) := by decide +kernel
theorem dX4_greatestPart_28 : decode cX4_greatestPart 28 = .ok (.iinc 4 1, 3) := by decide +kernel
theorem dX4_greatestPart_31 : decode cX4_greatestPart 31 = .ok (.goto (-24), 3) := by decide +kernel
theorem dX4_greatestPart_34 : decode cX4_greatestPart 34 = .ok (.iload_n 2, 1) := by decide +kernel
theorem dX4_greatestPart_35 : decode cX4_greatestPart 35 = .ok (.ireturn, 1) := by decide +kernel
theorem dX4_choices_0 : decode cX4_choices 0 = .ok (.iload_n 1, 1) := by decide +kernel
theorem dX4_choices_1 : decode cX4_choices 1 = .ok (.ifCond .lt 8, 3) := by decide +kernel
theorem dX4_choices_4 : decode cX4_choices 4 = .ok (.iload_n 1, 1) := by decide +kernel
theorem dX4_choices_5 : decode cX4_choices 5 = .ok (.iload_n 0, 1) := by decide +kernel
theorem dX4_choices_6 : decode cX4_choices 6 = .ok (.if_icmp .le 5, 3) := by decide +kernel
theorem dX4_choices_9 : decode cX4_choices 9 = .ok (.iconst 0, 1) := by decide +kernel
theorem dX4_choices_10 : decode cX4_choices 10 = .ok (.ireturn, 1) := by decide +kernel
theorem dX4_choices_11 : decode cX4_choices 11 = .ok (.iconst 1, 1) := by decide +kernel
theorem dX4_choices_12 : decode cX4_choices 12 = .ok (.istore_n 2, 1) := by decide +kernel
theorem dX4_choices_13 : decode cX4_choices 13 = .ok (.iconst 1, 1) := by decide +kernel
theorem dX4_choices_14 : decode cX4_choices 14 = .ok (.istore_n 3, 1) := by decide +kernel
theorem dX4_choices_15 : decode cX4_choices 15 = .ok (.iload_n 3, 1) := by decide +kernel
theorem dX4_choices_16 : decode cX4_choices 16 = .ok (.iload_n 1, 1) := by decide +kernel
theorem dX4_choices_17 : decode cX4_choices 17 = .ok (.if_icmp .gt 19, 3) := by decide +kernel
theorem dX4_choices_20 : decode cX4_choices 20 = .ok (.iload_n 2, 1) := by decide +kernel
theorem dX4_choices_21 : decode cX4_choices 21 = .ok (.iload_n 0, 1) := by decide +kernel
theorem dX4_choices_22 : decode cX4_choices 22 = .ok (.iload_n 1, 1) := by decide +kernel
theorem dX4_choices_23 : decode cX4_choices 23 = .ok (.isub, 1) := by decide +kernel
theorem dX4_choices_24 : decode cX4_choices 24 = .ok (.iload_n 3, 1) := by decide +kernel
theorem dX4_choices_25 : decode cX4_choices 25 = .ok (.iadd, 1) := by decide +kernel
theorem dX4_choices_26 : decode cX4_choices 26 = .ok (.imul, 1) := by decide +kernel
theorem dX4_choices_27 : decode cX4_choices 27 = .ok (.iload_n 3, 1) := by decide +kernel
theorem dX4_choices_28 : decode cX4_choices 28 = .ok (.idiv, 1) := by decide +kernel
theorem dX4_choices_29 : decode cX4_choices 29 = .ok (.istore_n 2, 1) := by decide +kernel
theorem dX4_choices_30 : decode cX4_choices 30 = .ok (.iinc 3 1, 3) := by decide +kernel
theorem dX4_choices_33 : decode cX4_choices 33 = .ok (.goto (-18), 3) := by decide +kernel
theorem dX4_choices_36 : decode cX4_choices 36 = .ok (.iload_n 2, 1) := by decide +kernel
theorem dX4_choices_37 : decode cX4_choices 37 = .ok (.ireturn, 1) := by decide +kernel
theorem dX4_allOnes_0 : decode cX4_allOnes 0 = .ok (.iconst 0, 1) := by decide +kernel
theorem dX4_allOnes_1 : decode cX4_allOnes 1 = .ok (.istore_n 1, 1) := by decide +kernel
theorem dX4_allOnes_2 : decode cX4_allOnes 2 = .ok (.iconst 0, 1) := by decide +kernel
theorem dX4_allOnes_3 : decode cX4_allOnes 3 = .ok (.istore_n 2, 1) := by decide +kernel
theorem dX4_allOnes_4 : decode cX4_allOnes 4 = .ok (.iload_n 2, 1) := by decide +kernel
theorem dX4_allOnes_5 : decode cX4_allOnes 5 = .ok (.bipush 14, 2) := by decide +kernel
theorem dX4_allOnes_7 : decode cX4_allOnes 7 = .ok (.if_icmp .ge 43, 3) := by decide +kernel
theorem dX4_allOnes_10 : decode cX4_allOnes 10 = .ok (.iconst 1, 1) := by decide +kernel
theorem dX4_allOnes_11 : decode cX4_allOnes 11 = .ok (.iload_n 2, 1) := by decide +kernel
theorem dX4_allOnes_12 : decode cX4_allOnes 12 = .ok (.ishl, 1) := by decide +kernel
theorem dX4_allOnes_13 : decode cX4_allOnes 13 = .ok (.istore_n 3, 1) := by decide +kernel
theorem dX4_allOnes_14 : decode cX4_allOnes 14 = .ok (.iload_n 0, 1) := by decide +kernel
theorem dX4_allOnes_15 : decode cX4_allOnes 15 = .ok (.iconst 1, 1) := by decide +kernel
theorem dX4_allOnes_16 : decode cX4_allOnes 16 = .ok (.iadd, 1) := by decide +kernel
theorem dX4_allOnes_17 : decode cX4_allOnes 17 = .ok (.iconst 2, 1) := by decide +kernel
theorem dX4_allOnes_18 : decode cX4_allOnes 18 = .ok (.iload_n 3, 1) := by decide +kernel
theorem dX4_allOnes_19 : decode cX4_allOnes 19 = .ok (.imul, 1) := by decide +kernel
theorem dX4_allOnes_20 : decode cX4_allOnes 20 = .ok (.irem, 1) := by decide +kernel
theorem dX4_allOnes_21 : decode cX4_allOnes 21 = .ok (.istore 4, 2) := by decide +kernel
theorem dX4_allOnes_23 : decode cX4_allOnes 23 = .ok (.iload_n 1, 1) := by decide +kernel
theorem dX4_allOnes_24 : decode cX4_allOnes 24 = .ok (.iload_n 0, 1) := by decide +kernel
theorem dX4_allOnes_25 : decode cX4_allOnes 25 = .ok (.iconst 1, 1) := by decide +kernel
theorem dX4_allOnes_26 : decode cX4_allOnes 26 = .ok (.iadd, 1) := by decide +kernel
theorem dX4_allOnes_27 : decode cX4_allOnes 27 = .ok (.iconst 2, 1) := by decide +kernel
theorem dX4_allOnes_28 : decode cX4_allOnes 28 = .ok (.iload_n 3, 1) := by decide +kernel
theorem dX4_allOnes_29 : decode cX4_allOnes 29 = .ok (.imul, 1) := by decide +kernel
theorem dX4_allOnes_30 : decode cX4_allOnes 30 = .ok (.idiv, 1) := by decide +kernel
theorem dX4_allOnes_31 : decode cX4_allOnes 31 = .ok (.iload_n 3, 1) := by decide +kernel
theorem dX4_allOnes_32 : decode cX4_allOnes 32 = .ok (.imul, 1) := by decide +kernel
theorem dX4_allOnes_33 : decode cX4_allOnes 33 = .ok (.iconst 0, 1) := by decide +kernel
theorem dX4_allOnes_34 : decode cX4_allOnes 34 = .ok (.iload 4, 2) := by decide +kernel
theorem dX4_allOnes_36 : decode cX4_allOnes 36 = .ok (.iload_n 3, 1) := by decide +kernel
theorem dX4_allOnes_37 : decode cX4_allOnes 37 = .ok (.isub, 1) := by decide +kernel
theorem dX4_allOnes_38 : decode cX4_allOnes 38 = .ok (.invokestatic 7, 3) := by decide +kernel
theorem dX4_allOnes_41 : decode cX4_allOnes 41 = .ok (.iadd, 1) := by decide +kernel
theorem dX4_allOnes_42 : decode cX4_allOnes 42 = .ok (.iadd, 1) := by decide +kernel
theorem dX4_allOnes_43 : decode cX4_allOnes 43 = .ok (.istore_n 1, 1) := by decide +kernel
theorem dX4_allOnes_44 : decode cX4_allOnes 44 = .ok (.iinc 2 1, 3) := by decide +kernel
theorem dX4_allOnes_47 : decode cX4_allOnes 47 = .ok (.goto (-43), 3) := by decide +kernel
theorem dX4_allOnes_50 : decode cX4_allOnes 50 = .ok (.iload_n 1, 1) := by decide +kernel
theorem dX4_allOnes_51 : decode cX4_allOnes 51 = .ok (.ireturn, 1) := by decide +kernel
theorem dX4_withOnes_0 : decode cX4_withOnes 0 = .ok (.iconst 0, 1) := by decide +kernel
theorem dX4_withOnes_1 : decode cX4_withOnes 1 = .ok (.istore_n 2, 1) := by decide +kernel
theorem dX4_withOnes_2 : decode cX4_withOnes 2 = .ok (.iconst 0, 1) := by decide +kernel
theorem dX4_withOnes_3 : decode cX4_withOnes 3 = .ok (.istore_n 3, 1) := by decide +kernel
theorem dX4_withOnes_4 : decode cX4_withOnes 4 = .ok (.bipush 14, 2) := by decide +kernel
theorem dX4_withOnes_6 : decode cX4_withOnes 6 = .ok (.istore 4, 2) := by decide +kernel
theorem dX4_withOnes_8 : decode cX4_withOnes 8 = .ok (.iload 4, 2) := by decide +kernel
theorem dX4_withOnes_10 : decode cX4_withOnes 10 = .ok (.ifCond .lt 34, 3) := by decide +kernel
theorem dX4_withOnes_13 : decode cX4_withOnes 13 = .ok (.iload_n 0, 1) := by decide +kernel
theorem dX4_withOnes_14 : decode cX4_withOnes 14 = .ok (.iconst 1, 1) := by decide +kernel
theorem dX4_withOnes_15 : decode cX4_withOnes 15 = .ok (.iadd, 1) := by decide +kernel
theorem dX4_withOnes_16 : decode cX4_withOnes 16 = .ok (.iload 4, 2) := by decide +kernel
theorem dX4_withOnes_18 : decode cX4_withOnes 18 = .ok (.ishr, 1) := by decide +kernel
theorem dX4_withOnes_19 : decode cX4_withOnes 19 = .ok (.iconst 1, 1) := by decide +kernel
theorem dX4_withOnes_20 : decode cX4_withOnes 20 = .ok (.iand, 1) := by decide +kernel
theorem dX4_withOnes_21 : decode cX4_withOnes 21 = .ok (.ifCond .eq 17, 3) := by decide +kernel
theorem dX4_withOnes_24 : decode cX4_withOnes 24 = .ok (.iload_n 2, 1) := by decide +kernel
theorem dX4_withOnes_25 : decode cX4_withOnes 25 = .ok (.iload 4, 2) := by decide +kernel
theorem dX4_withOnes_27 : decode cX4_withOnes 27 = .ok (.iload_n 1, 1) := by decide +kernel
theorem dX4_withOnes_28 : decode cX4_withOnes 28 = .ok (.iload_n 3, 1) := by decide +kernel
theorem dX4_withOnes_29 : decode cX4_withOnes 29 = .ok (.isub, 1) := by decide +kernel
theorem dX4_withOnes_30 : decode cX4_withOnes 30 = .ok (.invokestatic 13, 3) := by decide +kernel
theorem dX4_withOnes_33 : decode cX4_withOnes 33 = .ok (.iadd, 1) := by decide +kernel
theorem dX4_withOnes_34 : decode cX4_withOnes 34 = .ok (.istore_n 2, 1) := by decide +kernel
theorem dX4_withOnes_35 : decode cX4_withOnes 35 = .ok (.iinc 3 1, 3) := by decide +kernel
theorem dX4_withOnes_38 : decode cX4_withOnes 38 = .ok (.iinc 4 (-1), 3) := by decide +kernel
theorem dX4_withOnes_41 : decode cX4_withOnes 41 = .ok (.goto (-33), 3) := by decide +kernel
theorem dX4_withOnes_44 : decode cX4_withOnes 44 = .ok (.iload_n 2, 1) := by decide +kernel
theorem dX4_withOnes_45 : decode cX4_withOnes 45 = .ok (.ireturn, 1) := by decide +kernel
theorem dX4_strungBits_0 : decode cX4_strungBits 0 = .ok (.iconst 0, 1) := by decide +kernel
theorem dX4_strungBits_1 : decode cX4_strungBits 1 = .ok (.istore_n 1, 1) := by decide +kernel
theorem dX4_strungBits_2 : decode cX4_strungBits 2 = .ok (.iload_n 0, 1) := by decide +kernel
theorem dX4_strungBits_3 : decode cX4_strungBits 3 = .ok (.istore_n 2, 1) := by decide +kernel
theorem dX4_strungBits_4 : decode cX4_strungBits 4 = .ok (.getstatic 18, 3) := by decide +kernel
theorem dX4_strungBits_7 : decode cX4_strungBits 7 = .ok (.arraylength, 1) := by decide +kernel
theorem dX4_strungBits_8 : decode cX4_strungBits 8 = .ok (.iconst 1, 1) := by decide +kernel
theorem dX4_strungBits_9 : decode cX4_strungBits 9 = .ok (.isub, 1) := by decide +kernel
theorem dX4_strungBits_10 : decode cX4_strungBits 10 = .ok (.istore_n 3, 1) := by decide +kernel
theorem dX4_strungBits_11 : decode cX4_strungBits 11 = .ok (.iload_n 3, 1) := by decide +kernel
theorem dX4_strungBits_12 : decode cX4_strungBits 12 = .ok (.ifCond .lt 32, 3) := by decide +kernel
theorem dX4_strungBits_15 : decode cX4_strungBits 15 = .ok (.getstatic 18, 3) := by decide +kernel
theorem dX4_strungBits_18 : decode cX4_strungBits 18 = .ok (.iload_n 3, 1) := by decide +kernel
theorem dX4_strungBits_19 : decode cX4_strungBits 19 = .ok (.iaload, 1) := by decide +kernel
theorem dX4_strungBits_20 : decode cX4_strungBits 20 = .ok (.iload_n 2, 1) := by decide +kernel
theorem dX4_strungBits_21 : decode cX4_strungBits 21 = .ok (.if_icmp .gt 17, 3) := by decide +kernel
theorem dX4_strungBits_24 : decode cX4_strungBits 24 = .ok (.iload_n 2, 1) := by decide +kernel
theorem dX4_strungBits_25 : decode cX4_strungBits 25 = .ok (.getstatic 18, 3) := by decide +kernel
theorem dX4_strungBits_28 : decode cX4_strungBits 28 = .ok (.iload_n 3, 1) := by decide +kernel
theorem dX4_strungBits_29 : decode cX4_strungBits 29 = .ok (.iaload, 1) := by decide +kernel
theorem dX4_strungBits_30 : decode cX4_strungBits 30 = .ok (.isub, 1) := by decide +kernel
theorem dX4_strungBits_31 : decode cX4_strungBits 31 = .ok (.istore_n 2, 1) := by decide +kernel
theorem dX4_strungBits_32 : decode cX4_strungBits 32 = .ok (.iload_n 1, 1) := by decide +kernel
theorem dX4_strungBits_33 : decode cX4_strungBits 33 = .ok (.iconst 1, 1) := by decide +kernel
theorem dX4_strungBits_34 : decode cX4_strungBits 34 = .ok (.iload_n 3, 1) := by decide +kernel
theorem dX4_strungBits_35 : decode cX4_strungBits 35 = .ok (.ishl, 1) := by decide +kernel
theorem dX4_strungBits_36 : decode cX4_strungBits 36 = .ok (.ior, 1) := by decide +kernel
theorem dX4_strungBits_37 : decode cX4_strungBits 37 = .ok (.istore_n 1, 1) := by decide +kernel
theorem dX4_strungBits_38 : decode cX4_strungBits 38 = .ok (.iinc 3 (-1), 3) := by decide +kernel
theorem dX4_strungBits_41 : decode cX4_strungBits 41 = .ok (.goto (-30), 3) := by decide +kernel
theorem dX4_strungBits_44 : decode cX4_strungBits 44 = .ok (.iload_n 1, 1) := by decide +kernel
theorem dX4_strungBits_45 : decode cX4_strungBits 45 = .ok (.ireturn, 1) := by decide +kernel
theorem dX4_rowColourings_0 : decode cX4_rowColourings 0 = .ok (.iload_n 1, 1) := by decide +kernel
theorem dX4_rowColourings_1 : decode cX4_rowColourings 1 = .ok (.i2l, 1) := by decide +kernel
theorem dX4_rowColourings_2 : decode cX4_rowColourings 2 = .ok (.iload_n 1, 1) := by decide +kernel
theorem dX4_rowColourings_3 : decode cX4_rowColourings 3 = .ok (.iconst 1, 1) := by decide +kernel
theorem dX4_rowColourings_4 : decode cX4_rowColourings 4 = .ok (.isub, 1) := by decide +kernel
theorem dX4_rowColourings_5 : decode cX4_rowColourings 5 = .ok (.iload_n 0, 1) := by decide +kernel
theorem dX4_rowColourings_6 : decode cX4_rowColourings 6 = .ok (.iconst 1, 1) := by decide +kernel
theorem dX4_rowColourings_7 : decode cX4_rowColourings 7 = .ok (.isub, 1) := by decide +kernel
theorem dX4_rowColourings_8 : decode cX4_rowColourings 8 = .ok (.invokestatic 22, 3) := by decide +kernel
theorem dX4_rowColourings_11 : decode cX4_rowColourings 11 = .ok (.lmul, 1) := by decide +kernel
theorem dX4_rowColourings_12 : decode cX4_rowColourings 12 = .ok (.ldc2_w 26, 3) := by decide +kernel
theorem dX4_rowColourings_15 : decode cX4_rowColourings 15 = .ok (.lrem, 1) := by decide +kernel
theorem dX4_rowColourings_16 : decode cX4_rowColourings 16 = .ok (.l2i, 1) := by decide +kernel
theorem dX4_rowColourings_17 : decode cX4_rowColourings 17 = .ok (.ireturn, 1) := by decide +kernel
theorem dX4_ringColourings_0 : decode cX4_ringColourings 0 = .ok (.iload_n 0, 1) := by decide +kernel
theorem dX4_ringColourings_1 : decode cX4_ringColourings 1 = .ok (.iconst 1, 1) := by decide +kernel
theorem dX4_ringColourings_2 : decode cX4_ringColourings 2 = .ok (.if_icmp .ne 5, 3) := by decide +kernel
theorem dX4_ringColourings_5 : decode cX4_ringColourings 5 = .ok (.iload_n 1, 1) := by decide +kernel
theorem dX4_ringColourings_6 : decode cX4_ringColourings 6 = .ok (.ireturn, 1) := by decide +kernel
theorem dX4_ringColourings_7 : decode cX4_ringColourings 7 = .ok (.iload_n 0, 1) := by decide +kernel
theorem dX4_ringColourings_8 : decode cX4_ringColourings 8 = .ok (.iconst 2, 1) := by decide +kernel
theorem dX4_ringColourings_9 : decode cX4_ringColourings 9 = .ok (.irem, 1) := by decide +kernel
theorem dX4_ringColourings_10 : decode cX4_ringColourings 10 = .ok (.ifCond .ne 10, 3) := by decide +kernel
theorem dX4_ringColourings_13 : decode cX4_ringColourings 13 = .ok (.iload_n 1, 1) := by decide +kernel
theorem dX4_ringColourings_14 : decode cX4_ringColourings 14 = .ok (.iconst 1, 1) := by decide +kernel
theorem dX4_ringColourings_15 : decode cX4_ringColourings 15 = .ok (.isub, 1) := by decide +kernel
theorem dX4_ringColourings_16 : decode cX4_ringColourings 16 = .ok (.i2l, 1) := by decide +kernel
theorem dX4_ringColourings_17 : decode cX4_ringColourings 17 = .ok (.goto 11, 3) := by decide +kernel
theorem dX4_ringColourings_20 : decode cX4_ringColourings 20 = .ok (.ldc2_w 26, 3) := by decide +kernel
theorem dX4_ringColourings_23 : decode cX4_ringColourings 23 = .ok (.iload_n 1, 1) := by decide +kernel
theorem dX4_ringColourings_24 : decode cX4_ringColourings 24 = .ok (.iconst 1, 1) := by decide +kernel
theorem dX4_ringColourings_25 : decode cX4_ringColourings 25 = .ok (.isub, 1) := by decide +kernel
theorem dX4_ringColourings_26 : decode cX4_ringColourings 26 = .ok (.i2l, 1) := by decide +kernel
theorem dX4_ringColourings_27 : decode cX4_ringColourings 27 = .ok (.lsub, 1) := by decide +kernel
theorem dX4_ringColourings_28 : decode cX4_ringColourings 28 = .ok (.lstore_n 2, 1) := by decide +kernel
theorem dX4_ringColourings_29 : decode cX4_ringColourings 29 = .ok (.iload_n 1, 1) := by decide +kernel
theorem dX4_ringColourings_30 : decode cX4_ringColourings 30 = .ok (.iconst 1, 1) := by decide +kernel
theorem dX4_ringColourings_31 : decode cX4_ringColourings 31 = .ok (.isub, 1) := by decide +kernel
theorem dX4_ringColourings_32 : decode cX4_ringColourings 32 = .ok (.iload_n 0, 1) := by decide +kernel
theorem dX4_ringColourings_33 : decode cX4_ringColourings 33 = .ok (.invokestatic 22, 3) := by decide +kernel
theorem dX4_ringColourings_36 : decode cX4_ringColourings 36 = .ok (.lload_n 2, 1) := by decide +kernel
theorem dX4_ringColourings_37 : decode cX4_ringColourings 37 = .ok (.ladd, 1) := by decide +kernel
theorem dX4_ringColourings_38 : decode cX4_ringColourings 38 = .ok (.ldc2_w 26, 3) := by decide +kernel
theorem dX4_ringColourings_41 : decode cX4_ringColourings 41 = .ok (.lrem, 1) := by decide +kernel
theorem dX4_ringColourings_42 : decode cX4_ringColourings 42 = .ok (.l2i, 1) := by decide +kernel
theorem dX4_ringColourings_43 : decode cX4_ringColourings 43 = .ok (.ireturn, 1) := by decide +kernel
theorem dX4_power_0 : decode cX4_power 0 = .ok (.lconst 1, 1) := by decide +kernel
theorem dX4_power_1 : decode cX4_power 1 = .ok (.lstore_n 2, 1) := by decide +kernel
theorem dX4_power_2 : decode cX4_power 2 = .ok (.iconst 0, 1) := by decide +kernel
theorem dX4_power_3 : decode cX4_power 3 = .ok (.istore 4, 2) := by decide +kernel
theorem dX4_power_5 : decode cX4_power 5 = .ok (.iload 4, 2) := by decide +kernel
theorem dX4_power_7 : decode cX4_power 7 = .ok (.iload_n 1, 1) := by decide +kernel
theorem dX4_power_8 : decode cX4_power 8 = .ok (.if_icmp .ge 18, 3) := by decide +kernel
theorem dX4_power_11 : decode cX4_power 11 = .ok (.lload_n 2, 1) := by decide +kernel
theorem dX4_power_12 : decode cX4_power 12 = .ok (.iload_n 0, 1) := by decide +kernel
theorem dX4_power_13 : decode cX4_power 13 = .ok (.i2l, 1) := by decide +kernel
theorem dX4_power_14 : decode cX4_power 14 = .ok (.lmul, 1) := by decide +kernel
theorem dX4_power_15 : decode cX4_power 15 = .ok (.ldc2_w 26, 3) := by decide +kernel
theorem dX4_power_18 : decode cX4_power 18 = .ok (.lrem, 1) := by decide +kernel
theorem dX4_power_19 : decode cX4_power 19 = .ok (.lstore_n 2, 1) := by decide +kernel
theorem dX4_power_20 : decode cX4_power 20 = .ok (.iinc 4 1, 3) := by decide +kernel
theorem dX4_power_23 : decode cX4_power 23 = .ok (.goto (-18), 3) := by decide +kernel
theorem dX4_power_26 : decode cX4_power 26 = .ok (.lload_n 2, 1) := by decide +kernel
theorem dX4_power_27 : decode cX4_power 27 = .ok (.lreturn, 1) := by decide +kernel
theorem dX5_init_0 : decode cX5_init 0 = .ok (.aload_n 0, 1) := by decide +kernel
theorem dX5_init_1 : decode cX5_init 1 = .ok (.invokespecial 3, 3) := by decide +kernel
theorem dX5_init_4 : decode cX5_init 4 = .ok (.aload_n 0, 1) := by decide +kernel
theorem dX5_init_5 : decode cX5_init 5 = .ok (.new 9, 3) := by decide +kernel
theorem dX5_init_8 : decode cX5_init 8 = .ok (.dup, 1) := by decide +kernel
theorem dX5_init_9 : decode cX5_init 9 = .ok (.invokespecial 11, 3) := by decide +kernel
theorem dX5_init_12 : decode cX5_init 12 = .ok (.putfield 12, 3) := by decide +kernel
theorem dX5_init_15 : decode cX5_init 15 = .ok (.aload_n 0, 1) := by decide +kernel
theorem dX5_init_16 : decode cX5_init 16 = .ok (.iconst (-1), 1) := by decide +kernel
theorem dX5_init_17 : decode cX5_init 17 = .ok (.putfield 18, 3) := by decide +kernel
theorem dX5_init_20 : decode cX5_init 20 = .ok (.aload_n 0, 1) := by decide +kernel
theorem dX5_init_21 : decode cX5_init 21 = .ok (.sipush 401, 3) := by decide +kernel
theorem dX5_init_24 : decode cX5_init 24 = .ok (.newarray .int, 2) := by decide +kernel
theorem dX5_init_26 : decode cX5_init 26 = .ok (.putfield 22, 3) := by decide +kernel
theorem dX5_init_29 : decode cX5_init 29 = .ok (.aload_n 0, 1) := by decide +kernel
theorem dX5_init_30 : decode cX5_init 30 = .ok (.sipush 401, 3) := by decide +kernel
theorem dX5_init_33 : decode cX5_init 33 = .ok (.newarray .int, 2) := by decide +kernel
theorem dX5_init_35 : decode cX5_init 35 = .ok (.putfield 26, 3) := by decide +kernel
theorem dX5_init_38 : decode cX5_init 38 = .ok (.aload_n 0, 1) := by decide +kernel
theorem dX5_init_39 : decode cX5_init 39 = .ok (.sipush 401, 3) := by decide +kernel
theorem dX5_init_42 : decode cX5_init 42 = .ok (.newarray .int, 2) := by decide +kernel
theorem dX5_init_44 : decode cX5_init 44 = .ok (.putfield 29, 3) := by decide +kernel
theorem dX5_init_47 : decode cX5_init 47 = .ok (.aload_n 0, 1) := by decide +kernel
theorem dX5_init_48 : decode cX5_init 48 = .ok (.aload_n 1, 1) := by decide +kernel
theorem dX5_init_49 : decode cX5_init 49 = .ok (.putfield 32, 3) := by decide +kernel
theorem dX5_init_52 : decode cX5_init 52 = .ok (.aload_n 0, 1) := by decide +kernel
theorem dX5_init_53 : decode cX5_init 53 = .ok (.aload_n 2, 1) := by decide +kernel
theorem dX5_init_54 : decode cX5_init 54 = .ok (.putfield 36, 3) := by decide +kernel
theorem dX5_init_57 : decode cX5_init 57 = .ok (.return_, 1) := by decide +kernel
theorem dX5_isFact_0 : decode cX5_isFact 0 = .ok (.iload_n 0, 1) := by decide +kernel
theorem dX5_isFact_1 : decode cX5_isFact 1 = .ok (.bipush 20, 2) := by decide +kernel
theorem dX5_isFact_3 : decode cX5_isFact 3 = .ok (.if_icmp .lt 13, 3) := by decide +kernel
theorem dX5_isFact_6 : decode cX5_isFact 6 = .ok (.iload_n 0, 1) := by decide +kernel
theorem dX5_isFact_7 : decode cX5_isFact 7 = .ok (.bipush 28, 2) := by decide +kernel
theorem dX5_isFact_9 : decode cX5_isFact 9 = .ok (.if_icmp .gt 7, 3) := by decide +kernel
theorem dX5_isFact_12 : decode cX5_isFact 12 = .ok (.iconst 1, 1) := by decide +kernel
theorem dX5_isFact_13 : decode cX5_isFact 13 = .ok (.goto 4, 3) := by decide +kernel
theorem dX5_isFact_16 : decode cX5_isFact 16 = .ok (.iconst 0, 1) := by decide +kernel
theorem dX5_isFact_17 : decode cX5_isFact 17 = .ok (.ireturn, 1) := by decide +kernel
theorem dX5_read_0 : decode cX5_read 0 = .ok (.aload_n 0, 1) := by decide +kernel
theorem dX5_read_1 : decode cX5_read 1 = .ok (.iconst 0, 1) := by decide +kernel
theorem dX5_read_2 : decode cX5_read 2 = .ok (.putfield 40, 3) := by decide +kernel
theorem dX5_read_5 : decode cX5_read 5 = .ok (.aload_n 0, 1) := by decide +kernel
theorem dX5_read_6 : decode cX5_read 6 = .ok (.iconst (-1), 1) := by decide +kernel
theorem dX5_read_7 : decode cX5_read 7 = .ok (.putfield 18, 3) := by decide +kernel
theorem dX5_read_10 : decode cX5_read 10 = .ok (.iload_n 1, 1) := by decide +kernel
theorem dX5_read_11 : decode cX5_read 11 = .ok (.ifCond .lt 8, 3) := by decide +kernel
theorem dX5_read_14 : decode cX5_read 14 = .ok (.iload_n 1, 1) := by decide +kernel
theorem dX5_read_15 : decode cX5_read 15 = .ok (.iconst 3, 1) := by decide +kernel
theorem dX5_read_16 : decode cX5_read 16 = .ok (.if_icmp .le 5, 3) := by decide +kernel
theorem dX5_read_19 : decode cX5_read 19 = .ok (.iconst (-1), 1) := by decide +kernel
theorem dX5_read_20 : decode cX5_read 20 = .ok (.ireturn, 1) := by decide +kernel
theorem dX5_read_21 : decode cX5_read 21 = .ok (.aload_n 0, 1) := by decide +kernel
theorem dX5_read_22 : decode cX5_read 22 = .ok (.getfield 12, 3) := by decide +kernel
theorem dX5_read_25 : decode cX5_read 25 = .ok (.invokevirtual 43, 3) := by decide +kernel
theorem dX5_read_28 : decode cX5_read 28 = .ok (.aload_n 0, 1) := by decide +kernel
theorem dX5_read_29 : decode cX5_read 29 = .ok (.invokevirtual 46, 3) := by decide +kernel
theorem dX5_read_32 : decode cX5_read 32 = .ok (.iconst 0, 1) := by decide +kernel
theorem dX5_read_33 : decode cX5_read 33 = .ok (.istore_n 2, 1) := by decide +kernel
theorem dX5_read_34 : decode cX5_read 34 = .ok (.iload_n 2, 1) := by decide +kernel
theorem dX5_read_35 : decode cX5_read 35 = .ok (.bipush 16, 2) := by decide +kernel
theorem dX5_read_37 : decode cX5_read 37 = .ok (.if_icmp .gt 102, 3) := by decide +kernel
theorem dX5_read_40 : decode cX5_read 40 = .ok (.aload_n 0, 1) := by decide +kernel
theorem dX5_read_41 : decode cX5_read 41 = .ok (.getfield 49, 3) := by decide +kernel
theorem dX5_read_44 : decode cX5_read 44 = .ok (.ifCond .eq 95, 3) := by decide +kernel
theorem dX5_read_47 : decode cX5_read 47 = .ok (.aload_n 0, 1) := by decide +kernel
theorem dX5_read_48 : decode cX5_read 48 = .ok (.getfield 40, 3) := by decide +kernel
theorem dX5_read_51 : decode cX5_read 51 = .ok (.ifCond .ne 88, 3) := by decide +kernel
theorem dX5_read_54 : decode cX5_read 54 = .ok (.iload_n 2, 1) := by decide +kernel
theorem dX5_read_55 : decode cX5_read 55 = .ok (.bipush 16, 2) := by decide +kernel
theorem dX5_read_57 : decode cX5_read 57 = .ok (.if_icmp .ne 23, 3) := by decide +kernel
theorem dX5_read_60 : decode cX5_read 60 = .ok (.aload_n 0, 1) := by decide +kernel
theorem dX5_read_61 : decode cX5_read 61 = .ok (.aload_n 0, 1) := by decide +kernel
theorem dX5_read_62 : decode cX5_read 62 = .ok (.iload_n 1, 1) := by decide +kernel
theorem dX5_read_63 : decode cX5_read 63 = .ok (.invokevirtual 52, 3) := by decide +kernel
theorem dX5_read_66 : decode cX5_read 66 = .ok (.ifCond .eq 7, 3) := by decide +kernel
theorem dX5_read_69 : decode cX5_read 69 = .ok (.iconst 3, 1) := by decide +kernel
theorem dX5_read_70 : decode cX5_read 70 = .ok (.goto 4, 3) := by decide +kernel
theorem dX5_read_73 : decode cX5_read 73 = .ok (.iconst 1, 1) := by decide +kernel
theorem dX5_read_74 : decode cX5_read 74 = .ok (.invokevirtual 56, 3) := by decide +kernel
theorem dX5_read_77 : decode cX5_read 77 = .ok (.goto 62, 3) := by decide +kernel
theorem dX5_read_80 : decode cX5_read 80 = .ok (.iload_n 1, 1) := by decide +kernel
theorem dX5_read_81 : decode cX5_read 81 = .ok (.tableswitch 48 0 2 #[27, 34, 41], 27) := by decide +kernel
theorem dX5_read_108 : decode cX5_read 108 = .ok (.aload_n 0, 1) := by decide +kernel
theorem dX5_read_109 : decode cX5_read 109 = .ok (.invokevirtual 60, 3) := by decide +kernel
theorem dX5_read_112 : decode cX5_read 112 = .ok (.goto 21, 3) := by decide +kernel
theorem dX5_read_115 : decode cX5_read 115 = .ok (.aload_n 0, 1) := by decide +kernel
theorem dX5_read_116 : decode cX5_read 116 = .ok (.invokevirtual 63, 3) := by decide +kernel
theorem dX5_read_119 : decode cX5_read 119 = .ok (.goto 14, 3) := by decide +kernel
theorem dX5_read_122 : decode cX5_read 122 = .ok (.aload_n 0, 1) := by decide +kernel
theorem dX5_read_123 : decode cX5_read 123 = .ok (.invokevirtual 66, 3) := by decide +kernel
theorem dX5_read_126 : decode cX5_read 126 = .ok (.goto 7, 3) := by decide +kernel
theorem dX5_read_129 : decode cX5_read 129 = .ok (.aload_n 0, 1) := by decide +kernel
theorem dX5_read_130 : decode cX5_read 130 = .ok (.invokevirtual 69, 3) := by decide +kernel
theorem dX5_read_133 : decode cX5_read 133 = .ok (.iinc 2 1, 3) := by decide +kernel
theorem dX5_read_136 : decode cX5_read 136 = .ok (.goto (-102), 3) := by decide +kernel
theorem dX5_read_139 : decode cX5_read 139 = .ok (.aload_n 0, 1) := by decide +kernel
theorem dX5_read_140 : decode cX5_read 140 = .ok (.getfield 40, 3) := by decide +kernel
theorem dX5_read_143 : decode cX5_read 143 = .ok (.ifCond .ne 14, 3) := by decide +kernel
theorem dX5_read_146 : decode cX5_read 146 = .ok (.aload_n 0, 1) := by decide +kernel
theorem dX5_read_147 : decode cX5_read 147 = .ok (.getfield 12, 3) := by decide +kernel
theorem dX5_read_150 : decode cX5_read 150 = .ok (.iload_n 1, 1) := by decide +kernel
theorem dX5_read_151 : decode cX5_read 151 = .ok (.invokevirtual 72, 3) := by decide +kernel
theorem dX5_read_154 : decode cX5_read 154 = .ok (.goto 4, 3) := by decide +kernel
theorem dX5_read_157 : decode cX5_read 157 = .ok (.iconst (-1), 1) := by decide +kernel
theorem dX5_read_158 : decode cX5_read 158 = .ok (.ireturn, 1) := by decide +kernel
theorem dX5_begins_0 : decode cX5_begins 0 = .ok (.iload_n 1, 1) := by decide +kernel
theorem dX5_begins_1 : decode cX5_begins 1 = .ok (.ifCond .ne 27, 3) := by decide +kernel
theorem dX5_begins_4 : decode cX5_begins 4 = .ok (.aload_n 0, 1) := by decide +kernel
theorem dX5_begins_5 : decode cX5_begins 5 = .ok (.getfield 49, 3) := by decide +kernel
theorem dX5_begins_8 : decode cX5_begins 8 = .ok (.bipush 13, 2) := by decide +kernel
theorem dX5_begins_10 : decode cX5_begins 10 = .ok (.if_icmp .lt 16, 3) := by decide +kernel
theorem dX5_begins_13 : decode cX5_begins 13 = .ok (.aload_n 0, 1) := by decide +kernel
theorem dX5_begins_14 : decode cX5_begins 14 = .ok (.getfield 49, 3) := by decide +kernel
theorem dX5_begins_17 : decode cX5_begins 17 = .ok (.bipush 15, 2) := by decide +kernel
theorem dX5_begins_19 : decode cX5_begins 19 = .ok (.if_icmp .gt 7, 3) := by decide +kernel
theorem dX5_begins_22 : decode cX5_begins 22 = .ok (.iconst 1, 1) := by decide +kernel
theorem dX5_begins_23 : decode cX5_begins 23 = .ok (.goto 4, 3) := by decide +kernel
theorem dX5_begins_26 : decode cX5_begins 26 = .ok (.iconst 0, 1) := by decide +kernel
theorem dX5_begins_27 : decode cX5_begins 27 = .ok (.ireturn, 1) := by decide +kernel
theorem dX5_begins_28 : decode cX5_begins 28 = .ok (.aload_n 0, 1) := by decide +kernel
theorem dX5_begins_29 : decode cX5_begins 29 = .ok (.getfield 49, 3) := by decide +kernel
theorem dX5_begins_32 : decode cX5_begins 32 = .ok (.iload_n 1, 1) := by decide +kernel
theorem dX5_begins_33 : decode cX5_begins 33 = .ok (.iconst 3, 1) := by decide +kernel
theorem dX5_begins_34 : decode cX5_begins 34 = .ok (.if_icmp .ne 8, 3) := by decide +kernel
theorem dX5_begins_37 : decode cX5_begins 37 = .ok (.bipush 35, 2) := by decide +kernel
theorem dX5_begins_39 : decode cX5_begins 39 = .ok (.goto 5, 3) := by decide +kernel
theorem dX5_begins_42 : decode cX5_begins 42 = .ok (.bipush 29, 2) := by decide +kernel
theorem dX5_begins_44 : decode cX5_begins 44 = .ok (.if_icmp .ne 7, 3) := by decide +kernel
theorem dX5_begins_47 : decode cX5_begins 47 = .ok (.iconst 1, 1) := by decide +kernel
theorem dX5_begins_48 : decode cX5_begins 48 = .ok (.goto 4, 3) := by decide +kernel
theorem dX5_begins_51 : decode cX5_begins 51 = .ok (.iconst 0, 1) := by decide +kernel
theorem dX5_begins_52 : decode cX5_begins 52 = .ok (.ireturn, 1) := by decide +kernel
theorem dX5_lawLine_0 : decode cX5_lawLine 0 = .ok (.aload_n 0, 1) := by decide +kernel
theorem dX5_lawLine_1 : decode cX5_lawLine 1 = .ok (.getfield 49, 3) := by decide +kernel
theorem dX5_lawLine_4 : decode cX5_lawLine 4 = .ok (.bipush 13, 2) := by decide +kernel
theorem dX5_lawLine_6 : decode cX5_lawLine 6 = .ok (.isub, 1) := by decide +kernel
theorem dX5_lawLine_7 : decode cX5_lawLine 7 = .ok (.istore_n 1, 1) := by decide +kernel
theorem dX5_lawLine_8 : decode cX5_lawLine 8 = .ok (.aload_n 0, 1) := by decide +kernel
theorem dX5_lawLine_9 : decode cX5_lawLine 9 = .ok (.aload_n 0, 1) := by decide +kernel
theorem dX5_lawLine_10 : decode cX5_lawLine 10 = .ok (.iconst 0, 1) := by decide +kernel
theorem dX5_lawLine_11 : decode cX5_lawLine 11 = .ok (.invokevirtual 52, 3) := by decide +kernel
theorem dX5_lawLine_14 : decode cX5_lawLine 14 = .ok (.invokevirtual 76, 3) := by decide +kernel
theorem dX5_lawLine_17 : decode cX5_lawLine 17 = .ok (.aload_n 0, 1) := by decide +kernel
theorem dX5_lawLine_18 : decode cX5_lawLine 18 = .ok (.getfield 12, 3) := by decide +kernel
theorem dX5_lawLine_21 : decode cX5_lawLine 21 = .ok (.getfield 80, 3) := by decide +kernel
theorem dX5_lawLine_24 : decode cX5_lawLine 24 = .ok (.getfield 84, 3) := by decide +kernel
theorem dX5_lawLine_27 : decode cX5_lawLine 27 = .ok (.getfield 89, 3) := by decide +kernel
theorem dX5_lawLine_30 : decode cX5_lawLine 30 = .ok (.istore_n 2, 1) := by decide +kernel
theorem dX5_lawLine_31 : decode cX5_lawLine 31 = .ok (.aload_n 0, 1) := by decide +kernel
theorem dX5_lawLine_32 : decode cX5_lawLine 32 = .ok (.invokevirtual 94, 3) := by decide +kernel
theorem dX5_lawLine_35 : decode cX5_lawLine 35 = .ok (.aload_n 0, 1) := by decide +kernel
theorem dX5_lawLine_36 : decode cX5_lawLine 36 = .ok (.getfield 12, 3) := by decide +kernel
theorem dX5_lawLine_39 : decode cX5_lawLine 39 = .ok (.getfield 80, 3) := by decide +kernel
theorem dX5_lawLine_42 : decode cX5_lawLine 42 = .ok (.getfield 84, 3) := by decide +kernel
theorem dX5_lawLine_45 : decode cX5_lawLine 45 = .ok (.getfield 89, 3) := by decide +kernel
theorem dX5_lawLine_48 : decode cX5_lawLine 48 = .ok (.istore_n 3, 1) := by decide +kernel
theorem dX5_lawLine_49 : decode cX5_lawLine 49 = .ok (.aload_n 0, 1) := by decide +kernel
theorem dX5_lawLine_50 : decode cX5_lawLine 50 = .ok (.getfield 40, 3) := by decide +kernel
theorem dX5_lawLine_53 : decode cX5_lawLine 53 = .ok (.ifCond .ne 21, 3) := by decide +kernel
theorem dX5_lawLine_56 : decode cX5_lawLine 56 = .ok (.aload_n 0, 1) := by decide +kernel
theorem dX5_lawLine_57 : decode cX5_lawLine 57 = .ok (.getfield 49, 3) := by decide +kernel
theorem dX5_lawLine_60 : decode cX5_lawLine 60 = .ok (.bipush 16, 2) := by decide +kernel
theorem dX5_lawLine_62 : decode cX5_lawLine 62 = .ok (.if_icmp .ne 12, 3) := by decide +kernel
theorem dX5_lawLine_65 : decode cX5_lawLine 65 = .ok (.aload_n 0, 1) := by decide +kernel
theorem dX5_lawLine_66 : decode cX5_lawLine 66 = .ok (.invokevirtual 97, 3) := by decide +kernel
theorem dX5_lawLine_69 : decode cX5_lawLine 69 = .ok (.aload_n 0, 1) := by decide +kernel
theorem dX5_lawLine_70 : decode cX5_lawLine 70 = .ok (.iconst 0, 1) := by decide +kernel
theorem dX5_lawLine_71 : decode cX5_lawLine 71 = .ok (.invokevirtual 100, 3) := by decide +kernel
theorem dX5_lawLine_74 : decode cX5_lawLine 74 = .ok (.aload_n 0, 1) := by decide +kernel
theorem dX5_lawLine_75 : decode cX5_lawLine 75 = .ok (.aload_n 0, 1) := by decide +kernel
theorem dX5_lawLine_76 : decode cX5_lawLine 76 = .ok (.getfield 49, 3) := by decide +kernel
theorem dX5_lawLine_79 : decode cX5_lawLine 79 = .ok (.iconst 3, 1) := by decide +kernel
theorem dX5_lawLine_80 : decode cX5_lawLine 80 = .ok (.if_icmp .ne 7, 3) := by decide +kernel
theorem dX5_lawLine_83 : decode cX5_lawLine 83 = .ok (.iconst 1, 1) := by decide +kernel
theorem dX5_lawLine_84 : decode cX5_lawLine 84 = .ok (.goto 4, 3) := by decide +kernel
theorem dX5_lawLine_87 : decode cX5_lawLine 87 = .ok (.iconst 0, 1) := by decide +kernel
theorem dX5_lawLine_88 : decode cX5_lawLine 88 = .ok (.invokevirtual 76, 3) := by decide +kernel
theorem dX5_lawLine_91 : decode cX5_lawLine 91 = .ok (.aload_n 0, 1) := by decide +kernel
theorem dX5_lawLine_92 : decode cX5_lawLine 92 = .ok (.getfield 12, 3) := by decide +kernel
theorem dX5_lawLine_95 : decode cX5_lawLine 95 = .ok (.getfield 80, 3) := by decide +kernel
theorem dX5_lawLine_98 : decode cX5_lawLine 98 = .ok (.getfield 103, 3) := by decide +kernel
theorem dX5_lawLine_101 : decode cX5_lawLine 101 = .ok (.iload_n 1, 1) := by decide +kernel
theorem dX5_lawLine_102 : decode cX5_lawLine 102 = .ok (.iload_n 2, 1) := by decide +kernel
theorem dX5_lawLine_103 : decode cX5_lawLine 103 = .ok (.iload_n 3, 1) := by decide +kernel
theorem dX5_lawLine_104 : decode cX5_lawLine 104 = .ok (.aload_n 0, 1) := by decide +kernel
theorem dX5_lawLine_105 : decode cX5_lawLine 105 = .ok (.getfield 12, 3) := by decide +kernel
theorem dX5_lawLine_108 : decode cX5_lawLine 108 = .ok (.getfield 80, 3) := by decide +kernel
theorem dX5_lawLine_111 : decode cX5_lawLine 111 = .ok (.getfield 84, 3) := by decide +kernel
theorem dX5_lawLine_114 : decode cX5_lawLine 114 = .ok (.getfield 89, 3) := by decide +kernel
theorem dX5_lawLine_117 : decode cX5_lawLine 117 = .ok (.iconst 0, 1) := by decide +kernel
theorem dX5_lawLine_118 : decode cX5_lawLine 118 = .ok (.invokevirtual 106, 3) := by decide +kernel
theorem dX5_lawLine_121 : decode cX5_lawLine 121 = .ok (.pop, 1) := by decide +kernel
theorem dX5_lawLine_122 : decode cX5_lawLine 122 = .ok (.return_, 1) := by decide +kernel
theorem dX5_condition_0 : decode cX5_condition 0 = .ok (.iconst 0, 1) := by decide +kernel
theorem dX5_condition_1 : decode cX5_condition 1 = .ok (.istore_n 2, 1) := by decide +kernel
theorem dX5_condition_2 : decode cX5_condition 2 = .ok (.iconst 0, 1) := by decide +kernel
theorem dX5_condition_3 : decode cX5_condition 3 = .ok (.istore_n 3, 1) := by decide +kernel
theorem dX5_condition_4 : decode cX5_condition 4 = .ok (.iconst 0, 1) := by decide +kernel
theorem dX5_condition_5 : decode cX5_condition 5 = .ok (.istore 4, 2) := by decide +kernel
theorem dX5_condition_7 : decode cX5_condition 7 = .ok (.iload 4, 2) := by decide +kernel
theorem dX5_condition_9 : decode cX5_condition 9 = .ok (.aload_n 0, 1) := by decide +kernel
theorem dX5_condition_10 : decode cX5_condition 10 = .ok (.getfield 110, 3) := by decide +kernel
theorem dX5_condition_13 : decode cX5_condition 13 = .ok (.if_icmp .ge 99, 3) := by decide +kernel
theorem dX5_condition_16 : decode cX5_condition 16 = .ok (.aload_n 0, 1) := by decide +kernel
theorem dX5_condition_17 : decode cX5_condition 17 = .ok (.getfield 40, 3) := by decide +kernel
theorem dX5_condition_20 : decode cX5_condition 20 = .ok (.ifCond .ne 92, 3) := by decide +kernel
theorem dX5_condition_23 : decode cX5_condition 23 = .ok (.aload_n 0, 1) := by decide +kernel
theorem dX5_condition_24 : decode cX5_condition 24 = .ok (.iload_n 1, 1) := by decide +kernel
theorem dX5_condition_25 : decode cX5_condition 25 = .ok (.invokevirtual 113, 3) := by decide +kernel
theorem dX5_condition_28 : decode cX5_condition 28 = .ok (.iload_n 3, 1) := by decide +kernel
theorem dX5_condition_29 : decode cX5_condition 29 = .ok (.ifCond .eq 9, 3) := by decide +kernel
theorem dX5_condition_32 : decode cX5_condition 32 = .ok (.aload_n 0, 1) := by decide +kernel
theorem dX5_condition_33 : decode cX5_condition 33 = .ok (.bipush 18, 2) := by decide +kernel
theorem dX5_condition_35 : decode cX5_condition 35 = .ok (.invokevirtual 116, 3) := by decide +kernel
theorem dX5_condition_38 : decode cX5_condition 38 = .ok (.aload_n 0, 1) := by decide +kernel
theorem dX5_condition_39 : decode cX5_condition 39 = .ok (.getfield 40, 3) := by decide +kernel
theorem dX5_condition_42 : decode cX5_condition 42 = .ok (.ifCond .ne 16, 3) := by decide +kernel
theorem dX5_condition_45 : decode cX5_condition 45 = .ok (.aload_n 0, 1) := by decide +kernel
theorem dX5_condition_46 : decode cX5_condition 46 = .ok (.getfield 49, 3) := by decide +kernel
theorem dX5_condition_49 : decode cX5_condition 49 = .ok (.bipush 18, 2) := by decide +kernel
theorem dX5_condition_51 : decode cX5_condition 51 = .ok (.if_icmp .ne 7, 3) := by decide +kernel
theorem dX5_condition_54 : decode cX5_condition 54 = .ok (.iconst 1, 1) := by decide +kernel
theorem dX5_condition_55 : decode cX5_condition 55 = .ok (.goto 4, 3) := by decide +kernel
theorem dX5_condition_58 : decode cX5_condition 58 = .ok (.iconst 0, 1) := by decide +kernel
theorem dX5_condition_59 : decode cX5_condition 59 = .ok (.istore_n 3, 1) := by decide +kernel
theorem dX5_condition_60 : decode cX5_condition 60 = .ok (.iload_n 3, 1) := by decide +kernel
theorem dX5_condition_61 : decode cX5_condition 61 = .ok (.ifCond .ne 13, 3) := by decide +kernel
theorem dX5_condition_64 : decode cX5_condition 64 = .ok (.iload_n 2, 1) := by decide +kernel
theorem dX5_condition_65 : decode cX5_condition 65 = .ok (.ifCond .eq 9, 3) := by decide +kernel
theorem dX5_condition_68 : decode cX5_condition 68 = .ok (.aload_n 0, 1) := by decide +kernel
theorem dX5_condition_69 : decode cX5_condition 69 = .ok (.bipush 17, 2) := by decide +kernel
theorem dX5_condition_71 : decode cX5_condition 71 = .ok (.invokevirtual 116, 3) := by decide +kernel
theorem dX5_condition_74 : decode cX5_condition 74 = .ok (.iload_n 3, 1) := by decide +kernel
theorem dX5_condition_75 : decode cX5_condition 75 = .ok (.ifCond .ne 13, 3) := by decide +kernel
theorem dX5_condition_78 : decode cX5_condition 78 = .ok (.aload_n 0, 1) := by decide +kernel
theorem dX5_condition_79 : decode cX5_condition 79 = .ok (.getfield 49, 3) := by decide +kernel
theorem dX5_condition_82 : decode cX5_condition 82 = .ok (.bipush 17, 2) := by decide +kernel
theorem dX5_condition_84 : decode cX5_condition 84 = .ok (.if_icmp .eq 4, 3) := by decide +kernel
theorem dX5_condition_87 : decode cX5_condition 87 = .ok (.return_, 1) := by decide +kernel
theorem dX5_condition_88 : decode cX5_condition 88 = .ok (.iload_n 2, 1) := by decide +kernel
theorem dX5_condition_89 : decode cX5_condition 89 = .ok (.ifCond .ne 7, 3) := by decide +kernel
theorem dX5_condition_92 : decode cX5_condition 92 = .ok (.iload_n 3, 1) := by decide +kernel
theorem dX5_condition_93 : decode cX5_condition 93 = .ok (.ifCond .ne 7, 3) := by decide +kernel
theorem dX5_condition_96 : decode cX5_condition 96 = .ok (.iconst 1, 1) := by decide +kernel
theorem dX5_condition_97 : decode cX5_condition 97 = .ok (.goto 4, 3) := by decide +kernel
theorem dX5_condition_100 : decode cX5_condition 100 = .ok (.iconst 0, 1) := by decide +kernel
theorem dX5_condition_101 : decode cX5_condition 101 = .ok (.istore_n 2, 1) := by decide +kernel
theorem dX5_condition_102 : decode cX5_condition 102 = .ok (.aload_n 0, 1) := by decide +kernel
theorem dX5_condition_103 : decode cX5_condition 103 = .ok (.invokevirtual 97, 3) := by decide +kernel
theorem dX5_condition_106 : decode cX5_condition 106 = .ok (.iinc 4 1, 3) := by decide +kernel
theorem dX5_condition_109 : decode cX5_condition 109 = .ok (.goto (-102), 3) := by decide +kernel
theorem dX5_condition_112 : decode cX5_condition 112 = .ok (.return_, 1) := by decide +kernel
theorem dX5_clause_0 : decode cX5_clause 0 = .ok (.iconst 0, 1) := by decide +kernel
theorem dX5_clause_1 : decode cX5_clause 1 = .ok (.istore_n 2, 1) := by decide +kernel
theorem dX5_clause_2 : decode cX5_clause 2 = .ok (.aload_n 0, 1) := by decide +kernel
theorem dX5_clause_3 : decode cX5_clause 3 = .ok (.getfield 49, 3) := by decide +kernel
theorem dX5_clause_6 : decode cX5_clause 6 = .ok (.bipush 19, 2) := by decide +kernel
theorem dX5_clause_8 : decode cX5_clause 8 = .ok (.if_icmp .ne 21, 3) := by decide +kernel
theorem dX5_clause_11 : decode cX5_clause 11 = .ok (.iload_n 1, 1) := by decide +kernel
theorem dX5_clause_12 : decode cX5_clause 12 = .ok (.iload_n 2, 1) := by decide +kernel
theorem dX5_clause_13 : decode cX5_clause 13 = .ok (.iadd, 1) := by decide +kernel
theorem dX5_clause_14 : decode cX5_clause 14 = .ok (.bipush 8, 2) := by decide +kernel
theorem dX5_clause_16 : decode cX5_clause 16 = .ok (.if_icmp .ge 13, 3) := by decide +kernel
theorem dX5_clause_19 : decode cX5_clause 19 = .ok (.iinc 2 1, 3) := by decide +kernel
theorem dX5_clause_22 : decode cX5_clause 22 = .ok (.aload_n 0, 1) := by decide +kernel
theorem dX5_clause_23 : decode cX5_clause 23 = .ok (.invokevirtual 97, 3) := by decide +kernel
theorem dX5_clause_26 : decode cX5_clause 26 = .ok (.goto (-24), 3) := by decide +kernel
theorem dX5_clause_29 : decode cX5_clause 29 = .ok (.aload_n 0, 1) := by decide +kernel
theorem dX5_clause_30 : decode cX5_clause 30 = .ok (.getfield 49, 3) := by decide +kernel
theorem dX5_clause_33 : decode cX5_clause 33 = .ok (.bipush 19, 2) := by decide +kernel
theorem dX5_clause_35 : decode cX5_clause 35 = .ok (.if_icmp .eq 12, 3) := by decide +kernel
theorem dX5_clause_38 : decode cX5_clause 38 = .ok (.aload_n 0, 1) := by decide +kernel
theorem dX5_clause_39 : decode cX5_clause 39 = .ok (.getfield 49, 3) := by decide +kernel
theorem dX5_clause_42 : decode cX5_clause 42 = .ok (.bipush 8, 2) := by decide +kernel
theorem dX5_clause_44 : decode cX5_clause 44 = .ok (.if_icmp .ne 19, 3) := by decide +kernel
theorem dX5_clause_47 : decode cX5_clause 47 = .ok (.iload_n 1, 1) := by decide +kernel
theorem dX5_clause_48 : decode cX5_clause 48 = .ok (.iload_n 2, 1) := by decide +kernel
theorem dX5_clause_49 : decode cX5_clause 49 = .ok (.iadd, 1) := by decide +kernel
theorem dX5_clause_50 : decode cX5_clause 50 = .ok (.bipush 8, 2) := by decide +kernel
theorem dX5_clause_52 : decode cX5_clause 52 = .ok (.if_icmp .lt 11, 3) := by decide +kernel
theorem dX5_clause_55 : decode cX5_clause 55 = .ok (.aload_n 0, 1) := by decide +kernel
theorem dX5_clause_56 : decode cX5_clause 56 = .ok (.iconst 3, 1) := by decide +kernel
theorem dX5_clause_57 : decode cX5_clause 57 = .ok (.invokevirtual 56, 3) := by decide +kernel
theorem dX5_clause_60 : decode cX5_clause 60 = .ok (.goto 85, 3) := by decide +kernel
theorem dX5_clause_63 : decode cX5_clause 63 = .ok (.aload_n 0, 1) := by decide +kernel
theorem dX5_clause_64 : decode cX5_clause 64 = .ok (.getfield 49, 3) := by decide +kernel
theorem dX5_clause_67 : decode cX5_clause 67 = .ok (.bipush 8, 2) := by decide +kernel
theorem dX5_clause_69 : decode cX5_clause 69 = .ok (.if_icmp .ne 37, 3) := by decide +kernel
theorem dX5_clause_72 : decode cX5_clause 72 = .ok (.aload_n 0, 1) := by decide +kernel
theorem dX5_clause_73 : decode cX5_clause 73 = .ok (.invokevirtual 97, 3) := by decide +kernel
theorem dX5_clause_76 : decode cX5_clause 76 = .ok (.aload_n 0, 1) := by decide +kernel
theorem dX5_clause_77 : decode cX5_clause 77 = .ok (.iload_n 1, 1) := by decide +kernel
theorem dX5_clause_78 : decode cX5_clause 78 = .ok (.iload_n 2, 1) := by decide +kernel
theorem dX5_clause_79 : decode cX5_clause 79 = .ok (.iadd, 1) := by decide +kernel
theorem dX5_clause_80 : decode cX5_clause 80 = .ok (.iconst 1, 1) := by decide +kernel
theorem dX5_clause_81 : decode cX5_clause 81 = .ok (.iadd, 1) := by decide +kernel
theorem dX5_clause_82 : decode cX5_clause 82 = .ok (.invokevirtual 100, 3) := by decide +kernel
theorem dX5_clause_85 : decode cX5_clause 85 = .ok (.aload_n 0, 1) := by decide +kernel
theorem dX5_clause_86 : decode cX5_clause 86 = .ok (.aload_n 0, 1) := by decide +kernel
theorem dX5_clause_87 : decode cX5_clause 87 = .ok (.getfield 49, 3) := by decide +kernel
theorem dX5_clause_90 : decode cX5_clause 90 = .ok (.bipush 9, 2) := by decide +kernel
theorem dX5_clause_92 : decode cX5_clause 92 = .ok (.if_icmp .ne 7, 3) := by decide +kernel
theorem dX5_clause_95 : decode cX5_clause 95 = .ok (.iconst 1, 1) := by decide +kernel
theorem dX5_clause_96 : decode cX5_clause 96 = .ok (.goto 4, 3) := by decide +kernel
theorem dX5_clause_99 : decode cX5_clause 99 = .ok (.iconst 0, 1) := by decide +kernel
theorem dX5_clause_100 : decode cX5_clause 100 = .ok (.invokevirtual 76, 3) := by decide +kernel
theorem dX5_clause_103 : decode cX5_clause 103 = .ok (.goto 42, 3) := by decide +kernel
theorem dX5_clause_106 : decode cX5_clause 106 = .ok (.aload_n 0, 1) := by decide +kernel
theorem dX5_clause_107 : decode cX5_clause 107 = .ok (.invokevirtual 94, 3) := by decide +kernel
theorem dX5_clause_110 : decode cX5_clause 110 = .ok (.aload_n 0, 1) := by decide +kernel
theorem dX5_clause_111 : decode cX5_clause 111 = .ok (.getfield 49, 3) := by decide +kernel
theorem dX5_clause_114 : decode cX5_clause 114 = .ok (.istore_n 3, 1) := by decide +kernel
theorem dX5_clause_115 : decode cX5_clause 115 = .ok (.aload_n 0, 1) := by decide +kernel
theorem dX5_clause_116 : decode cX5_clause 116 = .ok (.iload_n 3, 1) := by decide +kernel
theorem dX5_clause_117 : decode cX5_clause 117 = .ok (.bipush 10, 2) := by decide +kernel
theorem dX5_clause_119 : decode cX5_clause 119 = .ok (.if_icmp .lt 13, 3) := by decide +kernel
theorem dX5_clause_122 : decode cX5_clause 122 = .ok (.iload_n 3, 1) := by decide +kernel
theorem dX5_clause_123 : decode cX5_clause 123 = .ok (.bipush 12, 2) := by decide +kernel
theorem dX5_clause_125 : decode cX5_clause 125 = .ok (.if_icmp .gt 7, 3) := by decide +kernel
theorem dX5_clause_128 : decode cX5_clause 128 = .ok (.iconst 1, 1) := by decide +kernel
theorem dX5_clause_129 : decode cX5_clause 129 = .ok (.goto 4, 3) := by decide +kernel
theorem dX5_clause_132 : decode cX5_clause 132 = .ok (.iconst 0, 1) := by decide +kernel
theorem dX5_clause_133 : decode cX5_clause 133 = .ok (.invokevirtual 76, 3) := by decide +kernel
theorem dX5_clause_136 : decode cX5_clause 136 = .ok (.aload_n 0, 1) := by decide +kernel
theorem dX5_clause_137 : decode cX5_clause 137 = .ok (.invokevirtual 94, 3) := by decide +kernel
theorem dX5_clause_140 : decode cX5_clause 140 = .ok (.aload_n 0, 1) := by decide +kernel
theorem dX5_clause_141 : decode cX5_clause 141 = .ok (.iload_n 3, 1) := by decide +kernel
theorem dX5_clause_142 : decode cX5_clause 142 = .ok (.invokevirtual 116, 3) := by decide +kernel
theorem dX5_clause_145 : decode cX5_clause 145 = .ok (.iconst 0, 1) := by decide +kernel
theorem dX5_clause_146 : decode cX5_clause 146 = .ok (.istore_n 3, 1) := by decide +kernel
theorem dX5_clause_147 : decode cX5_clause 147 = .ok (.iload_n 3, 1) := by decide +kernel
theorem dX5_clause_148 : decode cX5_clause 148 = .ok (.iload_n 2, 1) := by decide +kernel
theorem dX5_clause_149 : decode cX5_clause 149 = .ok (.if_icmp .ge 15, 3) := by decide +kernel
theorem dX5_clause_152 : decode cX5_clause 152 = .ok (.aload_n 0, 1) := by decide +kernel
theorem dX5_clause_153 : decode cX5_clause 153 = .ok (.bipush 19, 2) := by decide +kernel
theorem dX5_clause_155 : decode cX5_clause 155 = .ok (.invokevirtual 116, 3) := by decide +kernel
theorem dX5_clause_158 : decode cX5_clause 158 = .ok (.iinc 3 1, 3) := by decide +kernel
theorem dX5_clause_161 : decode cX5_clause 161 = .ok (.goto (-14), 3) := by decide +kernel
theorem dX5_clause_164 : decode cX5_clause 164 = .ok (.return_, 1) := by decide +kernel
theorem dX5_sum_0 : decode cX5_sum 0 = .ok (.iconst 0, 1) := by decide +kernel
theorem dX5_sum_1 : decode cX5_sum 1 = .ok (.istore_n 1, 1) := by decide +kernel
theorem dX5_sum_2 : decode cX5_sum 2 = .ok (.iconst 0, 1) := by decide +kernel
theorem dX5_sum_3 : decode cX5_sum 3 = .ok (.istore_n 2, 1) := by decide +kernel
theorem dX5_sum_4 : decode cX5_sum 4 = .ok (.iconst 0, 1) := by decide +kernel
theorem dX5_sum_5 : decode cX5_sum 5 = .ok (.istore_n 3, 1) := by decide +kernel
theorem dX5_sum_6 : decode cX5_sum 6 = .ok (.iload_n 3, 1) := by decide +kernel
theorem dX5_sum_7 : decode cX5_sum 7 = .ok (.aload_n 0, 1) := by decide +kernel
theorem dX5_sum_8 : decode cX5_sum 8 = .ok (.getfield 110, 3) := by decide +kernel
theorem dX5_sum_11 : decode cX5_sum 11 = .ok (.if_icmp .ge 175, 3) := by decide +kernel
theorem dX5_sum_14 : decode cX5_sum 14 = .ok (.aload_n 0, 1) := by decide +kernel
theorem dX5_sum_15 : decode cX5_sum 15 = .ok (.getfield 40, 3) := by decide +kernel
theorem dX5_sum_18 : decode cX5_sum 18 = .ok (.ifCond .ne 168, 3) := by decide +kernel
theorem dX5_sum_21 : decode cX5_sum 21 = .ok (.aload_n 0, 1) := by decide +kernel
theorem dX5_sum_22 : decode cX5_sum 22 = .ok (.getfield 49, 3) := by decide +kernel
theorem dX5_sum_25 : decode cX5_sum 25 = .ok (.iconst 2, 1) := by decide +kernel
theorem dX5_sum_26 : decode cX5_sum 26 = .ok (.if_icmp .eq 25, 3) := by decide +kernel
theorem dX5_sum_29 : decode cX5_sum 29 = .ok (.iload_n 2, 1) := by decide +kernel
theorem dX5_sum_30 : decode cX5_sum 30 = .ok (.bipush 7, 2) := by decide +kernel
theorem dX5_sum_32 : decode cX5_sum 32 = .ok (.if_icmp .eq 13, 3) := by decide +kernel
theorem dX5_sum_35 : decode cX5_sum 35 = .ok (.aload_n 0, 1) := by decide +kernel
theorem dX5_sum_36 : decode cX5_sum 36 = .ok (.getfield 49, 3) := by decide +kernel
theorem dX5_sum_39 : decode cX5_sum 39 = .ok (.invokestatic 119, 3) := by decide +kernel
theorem dX5_sum_42 : decode cX5_sum 42 = .ok (.ifCond .ne 9, 3) := by decide +kernel
theorem dX5_sum_45 : decode cX5_sum 45 = .ok (.aload_n 0, 1) := by decide +kernel
theorem dX5_sum_46 : decode cX5_sum 46 = .ok (.iconst 1, 1) := by decide +kernel
theorem dX5_sum_47 : decode cX5_sum 47 = .ok (.invokevirtual 56, 3) := by decide +kernel
theorem dX5_sum_50 : decode cX5_sum 50 = .ok (.return_, 1) := by decide +kernel
theorem dX5_sum_51 : decode cX5_sum 51 = .ok (.aload_n 0, 1) := by decide +kernel
theorem dX5_sum_52 : decode cX5_sum 52 = .ok (.getfield 26, 3) := by decide +kernel
theorem dX5_sum_55 : decode cX5_sum 55 = .ok (.aload_n 0, 1) := by decide +kernel
theorem dX5_sum_56 : decode cX5_sum 56 = .ok (.getfield 122, 3) := by decide +kernel
theorem dX5_sum_59 : decode cX5_sum 59 = .ok (.invokestatic 125, 3) := by decide +kernel
theorem dX5_sum_62 : decode cX5_sum 62 = .ok (.istore 4, 2) := by decide +kernel
theorem dX5_sum_64 : decode cX5_sum 64 = .ok (.iload_n 2, 1) := by decide +kernel
theorem dX5_sum_65 : decode cX5_sum 65 = .ok (.bipush 7, 2) := by decide +kernel
theorem dX5_sum_67 : decode cX5_sum 67 = .ok (.if_icmp .ne 14, 3) := by decide +kernel
theorem dX5_sum_70 : decode cX5_sum 70 = .ok (.iload 4, 2) := by decide +kernel
theorem dX5_sum_72 : decode cX5_sum 72 = .ok (.ifCond .ne 9, 3) := by decide +kernel
theorem dX5_sum_75 : decode cX5_sum 75 = .ok (.aload_n 0, 1) := by decide +kernel
theorem dX5_sum_76 : decode cX5_sum 76 = .ok (.iconst 2, 1) := by decide +kernel
theorem dX5_sum_77 : decode cX5_sum 77 = .ok (.invokevirtual 56, 3) := by decide +kernel
theorem dX5_sum_80 : decode cX5_sum 80 = .ok (.return_, 1) := by decide +kernel
theorem dX5_sum_81 : decode cX5_sum 81 = .ok (.aload_n 0, 1) := by decide +kernel
theorem dX5_sum_82 : decode cX5_sum 82 = .ok (.getfield 12, 3) := by decide +kernel
theorem dX5_sum_85 : decode cX5_sum 85 = .ok (.getfield 80, 3) := by decide +kernel
theorem dX5_sum_88 : decode cX5_sum 88 = .ok (.getfield 84, 3) := by decide +kernel
theorem dX5_sum_91 : decode cX5_sum 91 = .ok (.aload_n 0, 1) := by decide +kernel
theorem dX5_sum_92 : decode cX5_sum 92 = .ok (.getfield 49, 3) := by decide +kernel
theorem dX5_sum_95 : decode cX5_sum 95 = .ok (.iload 4, 2) := by decide +kernel
theorem dX5_sum_97 : decode cX5_sum 97 = .ok (.iconst 0, 1) := by decide +kernel
theorem dX5_sum_98 : decode cX5_sum 98 = .ok (.iconst 0, 1) := by decide +kernel
theorem dX5_sum_99 : decode cX5_sum 99 = .ok (.iconst 0, 1) := by decide +kernel
theorem dX5_sum_100 : decode cX5_sum 100 = .ok (.invokevirtual 106, 3) := by decide +kernel
theorem dX5_sum_103 : decode cX5_sum 103 = .ok (.pop, 1) := by decide +kernel
theorem dX5_sum_104 : decode cX5_sum 104 = .ok (.aload_n 0, 1) := by decide +kernel
theorem dX5_sum_105 : decode cX5_sum 105 = .ok (.invokevirtual 97, 3) := by decide +kernel
theorem dX5_sum_108 : decode cX5_sum 108 = .ok (.iload_n 2, 1) := by decide +kernel
theorem dX5_sum_109 : decode cX5_sum 109 = .ok (.ifCond .eq 8, 3) := by decide +kernel
theorem dX5_sum_112 : decode cX5_sum 112 = .ok (.aload_n 0, 1) := by decide +kernel
theorem dX5_sum_113 : decode cX5_sum 113 = .ok (.iload_n 2, 1) := by decide +kernel
theorem dX5_sum_114 : decode cX5_sum 114 = .ok (.invokevirtual 116, 3) := by decide +kernel
theorem dX5_sum_117 : decode cX5_sum 117 = .ok (.aload_n 0, 1) := by decide +kernel
theorem dX5_sum_118 : decode cX5_sum 118 = .ok (.getfield 49, 3) := by decide +kernel
theorem dX5_sum_121 : decode cX5_sum 121 = .ok (.bipush 6, 2) := by decide +kernel
theorem dX5_sum_123 : decode cX5_sum 123 = .ok (.if_icmp .eq 12, 3) := by decide +kernel
theorem dX5_sum_126 : decode cX5_sum 126 = .ok (.aload_n 0, 1) := by decide +kernel
theorem dX5_sum_127 : decode cX5_sum 127 = .ok (.getfield 49, 3) := by decide +kernel
theorem dX5_sum_130 : decode cX5_sum 130 = .ok (.bipush 7, 2) := by decide +kernel
theorem dX5_sum_132 : decode cX5_sum 132 = .ok (.if_icmp .ne 11, 3) := by decide +kernel
theorem dX5_sum_135 : decode cX5_sum 135 = .ok (.aload_n 0, 1) := by decide +kernel
theorem dX5_sum_136 : decode cX5_sum 136 = .ok (.getfield 49, 3) := by decide +kernel
theorem dX5_sum_139 : decode cX5_sum 139 = .ok (.istore_n 2, 1) := by decide +kernel
theorem dX5_sum_140 : decode cX5_sum 140 = .ok (.goto 36, 3) := by decide +kernel
theorem dX5_sum_143 : decode cX5_sum 143 = .ok (.iconst 0, 1) := by decide +kernel
theorem dX5_sum_144 : decode cX5_sum 144 = .ok (.istore_n 2, 1) := by decide +kernel
theorem dX5_sum_145 : decode cX5_sum 145 = .ok (.iload_n 1, 1) := by decide +kernel
theorem dX5_sum_146 : decode cX5_sum 146 = .ok (.ifCond .eq 8, 3) := by decide +kernel
theorem dX5_sum_149 : decode cX5_sum 149 = .ok (.aload_n 0, 1) := by decide +kernel
theorem dX5_sum_150 : decode cX5_sum 150 = .ok (.iload_n 1, 1) := by decide +kernel
theorem dX5_sum_151 : decode cX5_sum 151 = .ok (.invokevirtual 116, 3) := by decide +kernel
theorem dX5_sum_154 : decode cX5_sum 154 = .ok (.aload_n 0, 1) := by decide +kernel
theorem dX5_sum_155 : decode cX5_sum 155 = .ok (.getfield 49, 3) := by decide +kernel
theorem dX5_sum_158 : decode cX5_sum 158 = .ok (.iconst 4, 1) := by decide +kernel
theorem dX5_sum_159 : decode cX5_sum 159 = .ok (.if_icmp .eq 12, 3) := by decide +kernel
theorem dX5_sum_162 : decode cX5_sum 162 = .ok (.aload_n 0, 1) := by decide +kernel
theorem dX5_sum_163 : decode cX5_sum 163 = .ok (.getfield 49, 3) := by decide +kernel
theorem dX5_sum_166 : decode cX5_sum 166 = .ok (.iconst 5, 1) := by decide +kernel
theorem dX5_sum_167 : decode cX5_sum 167 = .ok (.if_icmp .eq 4, 3) := by decide +kernel
theorem dX5_sum_170 : decode cX5_sum 170 = .ok (.return_, 1) := by decide +kernel
theorem dX5_sum_171 : decode cX5_sum 171 = .ok (.aload_n 0, 1) := by decide +kernel
theorem dX5_sum_172 : decode cX5_sum 172 = .ok (.getfield 49, 3) := by decide +kernel
theorem dX5_sum_175 : decode cX5_sum 175 = .ok (.istore_n 1, 1) := by decide +kernel
theorem dX5_sum_176 : decode cX5_sum 176 = .ok (.aload_n 0, 1) := by decide +kernel
theorem dX5_sum_177 : decode cX5_sum 177 = .ok (.invokevirtual 97, 3) := by decide +kernel
theorem dX5_sum_180 : decode cX5_sum 180 = .ok (.iinc 3 1, 3) := by decide +kernel
theorem dX5_sum_183 : decode cX5_sum 183 = .ok (.goto (-177), 3) := by decide +kernel
theorem dX5_sum_186 : decode cX5_sum 186 = .ok (.return_, 1) := by decide +kernel
theorem dX5_pathLine_0 : decode cX5_pathLine 0 = .ok (.aload_n 0, 1) := by decide +kernel
theorem dX5_pathLine_1 : decode cX5_pathLine 1 = .ok (.aload_n 0, 1) := by decide +kernel
theorem dX5_pathLine_2 : decode cX5_pathLine 2 = .ok (.getfield 49, 3) := by decide +kernel
theorem dX5_pathLine_5 : decode cX5_pathLine 5 = .ok (.bipush 29, 2) := by decide +kernel
theorem dX5_pathLine_7 : decode cX5_pathLine 7 = .ok (.if_icmp .ne 7, 3) := by decide +kernel
theorem dX5_pathLine_10 : decode cX5_pathLine 10 = .ok (.iconst 1, 1) := by decide +kernel
theorem dX5_pathLine_11 : decode cX5_pathLine 11 = .ok (.goto 4, 3) := by decide +kernel
theorem dX5_pathLine_14 : decode cX5_pathLine 14 = .ok (.iconst 0, 1) := by decide +kernel
theorem dX5_pathLine_15 : decode cX5_pathLine 15 = .ok (.invokevirtual 76, 3) := by decide +kernel
theorem dX5_pathLine_18 : decode cX5_pathLine 18 = .ok (.aload_n 0, 1) := by decide +kernel
theorem dX5_pathLine_19 : decode cX5_pathLine 19 = .ok (.iconst 0, 1) := by decide +kernel
theorem dX5_pathLine_20 : decode cX5_pathLine 20 = .ok (.sipush 999, 3) := by decide +kernel
theorem dX5_pathLine_23 : decode cX5_pathLine 23 = .ok (.invokevirtual 129, 3) := by decide +kernel
theorem dX5_pathLine_26 : decode cX5_pathLine 26 = .ok (.istore_n 1, 1) := by decide +kernel
theorem dX5_pathLine_27 : decode cX5_pathLine 27 = .ok (.aload_n 0, 1) := by decide +kernel
theorem dX5_pathLine_28 : decode cX5_pathLine 28 = .ok (.aload_n 0, 1) := by decide +kernel
theorem dX5_pathLine_29 : decode cX5_pathLine 29 = .ok (.getfield 49, 3) := by decide +kernel
theorem dX5_pathLine_32 : decode cX5_pathLine 32 = .ok (.bipush 30, 2) := by decide +kernel
theorem dX5_pathLine_34 : decode cX5_pathLine 34 = .ok (.if_icmp .ne 7, 3) := by decide +kernel
theorem dX5_pathLine_37 : decode cX5_pathLine 37 = .ok (.iconst 1, 1) := by decide +kernel
theorem dX5_pathLine_38 : decode cX5_pathLine 38 = .ok (.goto 4, 3) := by decide +kernel
theorem dX5_pathLine_41 : decode cX5_pathLine 41 = .ok (.iconst 0, 1) := by decide +kernel
theorem dX5_pathLine_42 : decode cX5_pathLine 42 = .ok (.invokevirtual 76, 3) := by decide +kernel
theorem dX5_pathLine_45 : decode cX5_pathLine 45 = .ok (.aload_n 0, 1) := by decide +kernel
theorem dX5_pathLine_46 : decode cX5_pathLine 46 = .ok (.iconst 0, 1) := by decide +kernel
theorem dX5_pathLine_47 : decode cX5_pathLine 47 = .ok (.aload_n 0, 1) := by decide +kernel
theorem dX5_pathLine_48 : decode cX5_pathLine 48 = .ok (.getfield 36, 3) := by decide +kernel
theorem dX5_pathLine_51 : decode cX5_pathLine 51 = .ok (.getfield 133, 3) := by decide +kernel
theorem dX5_pathLine_54 : decode cX5_pathLine 54 = .ok (.getfield 89, 3) := by decide +kernel
theorem dX5_pathLine_57 : decode cX5_pathLine 57 = .ok (.iconst 1, 1) := by decide +kernel
theorem dX5_pathLine_58 : decode cX5_pathLine 58 = .ok (.isub, 1) := by decide +kernel
theorem dX5_pathLine_59 : decode cX5_pathLine 59 = .ok (.invokevirtual 129, 3) := by decide +kernel
theorem dX5_pathLine_62 : decode cX5_pathLine 62 = .ok (.istore_n 2, 1) := by decide +kernel
theorem dX5_pathLine_63 : decode cX5_pathLine 63 = .ok (.aload_n 0, 1) := by decide +kernel
theorem dX5_pathLine_64 : decode cX5_pathLine 64 = .ok (.getfield 49, 3) := by decide +kernel
theorem dX5_pathLine_67 : decode cX5_pathLine 67 = .ok (.istore_n 3, 1) := by decide +kernel
theorem dX5_pathLine_68 : decode cX5_pathLine 68 = .ok (.aload_n 0, 1) := by decide +kernel
theorem dX5_pathLine_69 : decode cX5_pathLine 69 = .ok (.iload_n 3, 1) := by decide +kernel
theorem dX5_pathLine_70 : decode cX5_pathLine 70 = .ok (.bipush 31, 2) := by decide +kernel
theorem dX5_pathLine_72 : decode cX5_pathLine 72 = .ok (.if_icmp .eq 15, 3) := by decide +kernel
theorem dX5_pathLine_75 : decode cX5_pathLine 75 = .ok (.iload_n 3, 1) := by decide +kernel
theorem dX5_pathLine_76 : decode cX5_pathLine 76 = .ok (.bipush 32, 2) := by decide +kernel
theorem dX5_pathLine_78 : decode cX5_pathLine 78 = .ok (.if_icmp .eq 9, 3) := by decide +kernel
theorem dX5_pathLine_81 : decode cX5_pathLine 81 = .ok (.iload_n 3, 1) := by decide +kernel
theorem dX5_pathLine_82 : decode cX5_pathLine 82 = .ok (.bipush 33, 2) := by decide +kernel
theorem dX5_pathLine_84 : decode cX5_pathLine 84 = .ok (.if_icmp .ne 7, 3) := by decide +kernel
theorem dX5_pathLine_87 : decode cX5_pathLine 87 = .ok (.iconst 1, 1) := by decide +kernel
theorem dX5_pathLine_88 : decode cX5_pathLine 88 = .ok (.goto 4, 3) := by decide +kernel
theorem dX5_pathLine_91 : decode cX5_pathLine 91 = .ok (.iconst 0, 1) := by decide +kernel
theorem dX5_pathLine_92 : decode cX5_pathLine 92 = .ok (.invokevirtual 76, 3) := by decide +kernel
theorem dX5_pathLine_95 : decode cX5_pathLine 95 = .ok (.iconst 0, 1) := by decide +kernel
theorem dX5_pathLine_96 : decode cX5_pathLine 96 = .ok (.istore 4, 2) := by decide +kernel
theorem dX5_pathLine_98 : decode cX5_pathLine 98 = .ok (.iload_n 3, 1) := by decide +kernel
theorem dX5_pathLine_99 : decode cX5_pathLine 99 = .ok (.bipush 31, 2) := by decide +kernel
theorem dX5_pathLine_101 : decode cX5_pathLine 101 = .ok (.if_icmp .ne 15, 3) := by decide +kernel
theorem dX5_pathLine_104 : decode cX5_pathLine 104 = .ok (.aload_n 0, 1) := by decide +kernel
theorem dX5_pathLine_105 : decode cX5_pathLine 105 = .ok (.iconst 0, 1) := by decide +kernel
theorem dX5_pathLine_106 : decode cX5_pathLine 106 = .ok (.bipush 19, 2) := by decide +kernel
theorem dX5_pathLine_108 : decode cX5_pathLine 108 = .ok (.invokevirtual 129, 3) := by decide +kernel
theorem dX5_pathLine_111 : decode cX5_pathLine 111 = .ok (.istore 4, 2) := by decide +kernel
theorem dX5_pathLine_113 : decode cX5_pathLine 113 = .ok (.goto 28, 3) := by decide +kernel
theorem dX5_pathLine_116 : decode cX5_pathLine 116 = .ok (.iload_n 3, 1) := by decide +kernel
theorem dX5_pathLine_117 : decode cX5_pathLine 117 = .ok (.bipush 33, 2) := by decide +kernel
theorem dX5_pathLine_119 : decode cX5_pathLine 119 = .ok (.if_icmp .ne 22, 3) := by decide +kernel
theorem dX5_pathLine_122 : decode cX5_pathLine 122 = .ok (.aload_n 0, 1) := by decide +kernel
theorem dX5_pathLine_123 : decode cX5_pathLine 123 = .ok (.iconst 0, 1) := by decide +kernel
theorem dX5_pathLine_124 : decode cX5_pathLine 124 = .ok (.aload_n 0, 1) := by decide +kernel
theorem dX5_pathLine_125 : decode cX5_pathLine 125 = .ok (.getfield 36, 3) := by decide +kernel
theorem dX5_pathLine_128 : decode cX5_pathLine 128 = .ok (.getfield 138, 3) := by decide +kernel
theorem dX5_pathLine_131 : decode cX5_pathLine 131 = .ok (.getfield 89, 3) := by decide +kernel
theorem dX5_pathLine_134 : decode cX5_pathLine 134 = .ok (.iconst 1, 1) := by decide +kernel
theorem dX5_pathLine_135 : decode cX5_pathLine 135 = .ok (.isub, 1) := by decide +kernel
theorem dX5_pathLine_136 : decode cX5_pathLine 136 = .ok (.invokevirtual 129, 3) := by decide +kernel
theorem dX5_pathLine_139 : decode cX5_pathLine 139 = .ok (.istore 4, 2) := by decide +kernel
theorem dX5_pathLine_141 : decode cX5_pathLine 141 = .ok (.iload_n 3, 1) := by decide +kernel
theorem dX5_pathLine_142 : decode cX5_pathLine 142 = .ok (.bipush 31, 2) := by decide +kernel
theorem dX5_pathLine_144 : decode cX5_pathLine 144 = .ok (.if_icmp .ne 7, 3) := by decide +kernel
theorem dX5_pathLine_147 : decode cX5_pathLine 147 = .ok (.iconst 0, 1) := by decide +kernel
theorem dX5_pathLine_148 : decode cX5_pathLine 148 = .ok (.goto 10, 3) := by decide +kernel
theorem dX5_pathLine_151 : decode cX5_pathLine 151 = .ok (.aload_n 0, 1) := by decide +kernel
theorem dX5_pathLine_152 : decode cX5_pathLine 152 = .ok (.iconst 1, 1) := by decide +kernel
theorem dX5_pathLine_153 : decode cX5_pathLine 153 = .ok (.bipush 40, 2) := by decide +kernel
theorem dX5_pathLine_155 : decode cX5_pathLine 155 = .ok (.invokevirtual 129, 3) := by decide +kernel
theorem dX5_pathLine_158 : decode cX5_pathLine 158 = .ok (.istore 5, 2) := by decide +kernel
theorem dX5_pathLine_160 : decode cX5_pathLine 160 = .ok (.aload_n 0, 1) := by decide +kernel
theorem dX5_pathLine_161 : decode cX5_pathLine 161 = .ok (.aload_n 0, 1) := by decide +kernel
theorem dX5_pathLine_162 : decode cX5_pathLine 162 = .ok (.getfield 49, 3) := by decide +kernel
theorem dX5_pathLine_165 : decode cX5_pathLine 165 = .ok (.iconst 3, 1) := by decide +kernel
theorem dX5_pathLine_166 : decode cX5_pathLine 166 = .ok (.if_icmp .ne 7, 3) := by decide +kernel
theorem dX5_pathLine_169 : decode cX5_pathLine 169 = .ok (.iconst 1, 1) := by decide +kernel
theorem dX5_pathLine_170 : decode cX5_pathLine 170 = .ok (.goto 4, 3) := by decide +kernel
theorem dX5_pathLine_173 : decode cX5_pathLine 173 = .ok (.iconst 0, 1) := by decide +kernel
theorem dX5_pathLine_174 : decode cX5_pathLine 174 = .ok (.invokevirtual 76, 3) := by decide +kernel
theorem dX5_pathLine_177 : decode cX5_pathLine 177 = .ok (.aload_n 0, 1) := by decide +kernel
theorem dX5_pathLine_178 : decode cX5_pathLine 178 = .ok (.getfield 12, 3) := by decide +kernel
theorem dX5_pathLine_181 : decode cX5_pathLine 181 = .ok (.getfield 141, 3) := by decide +kernel
theorem dX5_pathLine_184 : decode cX5_pathLine 184 = .ok (.iload_n 1, 1) := by decide +kernel
theorem dX5_pathLine_185 : decode cX5_pathLine 185 = .ok (.iload_n 2, 1) := by decide +kernel
theorem dX5_pathLine_186 : decode cX5_pathLine 186 = .ok (.iload_n 3, 1) := by decide +kernel
theorem dX5_pathLine_187 : decode cX5_pathLine 187 = .ok (.iload 4, 2) := by decide +kernel
theorem dX5_pathLine_189 : decode cX5_pathLine 189 = .ok (.iload 5, 2) := by decide +kernel
theorem dX5_pathLine_191 : decode cX5_pathLine 191 = .ok (.invokevirtual 106, 3) := by decide +kernel
theorem dX5_pathLine_194 : decode cX5_pathLine 194 = .ok (.pop, 1) := by decide +kernel
theorem dX5_pathLine_195 : decode cX5_pathLine 195 = .ok (.return_, 1) := by decide +kernel
theorem dX5_skyLine_0 : decode cX5_skyLine 0 = .ok (.aload_n 0, 1) := by decide +kernel
theorem dX5_skyLine_1 : decode cX5_skyLine 1 = .ok (.aload_n 0, 1) := by decide +kernel
theorem dX5_skyLine_2 : decode cX5_skyLine 2 = .ok (.getfield 49, 3) := by decide +kernel
theorem dX5_skyLine_5 : decode cX5_skyLine 5 = .ok (.bipush 29, 2) := by decide +kernel
theorem dX5_skyLine_7 : decode cX5_skyLine 7 = .ok (.if_icmp .ne 7, 3) := by decide +kernel
theorem dX5_skyLine_10 : decode cX5_skyLine 10 = .ok (.iconst 1, 1) := by decide +kernel
theorem dX5_skyLine_11 : decode cX5_skyLine 11 = .ok (.goto 4, 3) := by decide +kernel
theorem dX5_skyLine_14 : decode cX5_skyLine 14 = .ok (.iconst 0, 1) := by decide +kernel
theorem dX5_skyLine_15 : decode cX5_skyLine 15 = .ok (.invokevirtual 76, 3) := by decide +kernel
theorem dX5_skyLine_18 : decode cX5_skyLine 18 = .ok (.aload_n 0, 1) := by decide +kernel
theorem dX5_skyLine_19 : decode cX5_skyLine 19 = .ok (.iconst 0, 1) := by decide +kernel
theorem dX5_skyLine_20 : decode cX5_skyLine 20 = .ok (.sipush 999, 3) := by decide +kernel
theorem dX5_skyLine_23 : decode cX5_skyLine 23 = .ok (.invokevirtual 129, 3) := by decide +kernel
theorem dX5_skyLine_26 : decode cX5_skyLine 26 = .ok (.istore_n 1, 1) := by decide +kernel
theorem dX5_skyLine_27 : decode cX5_skyLine 27 = .ok (.aload_n 0, 1) := by decide +kernel
theorem dX5_skyLine_28 : decode cX5_skyLine 28 = .ok (.getfield 49, 3) := by decide +kernel
theorem dX5_skyLine_31 : decode cX5_skyLine 31 = .ok (.istore_n 2, 1) := by decide +kernel
theorem dX5_skyLine_32 : decode cX5_skyLine 32 = .ok (.aload_n 0, 1) := by decide +kernel
theorem dX5_skyLine_33 : decode cX5_skyLine 33 = .ok (.iload_n 2, 1) := by decide +kernel
theorem dX5_skyLine_34 : decode cX5_skyLine 34 = .ok (.bipush 25, 2) := by decide +kernel
theorem dX5_skyLine_36 : decode cX5_skyLine 36 = .ok (.if_icmp .eq 21, 3) := by decide +kernel
theorem dX5_skyLine_39 : decode cX5_skyLine 39 = .ok (.iload_n 2, 1) := by decide +kernel
theorem dX5_skyLine_40 : decode cX5_skyLine 40 = .ok (.bipush 26, 2) := by decide +kernel
theorem dX5_skyLine_42 : decode cX5_skyLine 42 = .ok (.if_icmp .eq 15, 3) := by decide +kernel
theorem dX5_skyLine_45 : decode cX5_skyLine 45 = .ok (.iload_n 2, 1) := by decide +kernel
theorem dX5_skyLine_46 : decode cX5_skyLine 46 = .ok (.bipush 27, 2) := by decide +kernel
theorem dX5_skyLine_48 : decode cX5_skyLine 48 = .ok (.if_icmp .eq 9, 3) := by decide +kernel
theorem dX5_skyLine_51 : decode cX5_skyLine 51 = .ok (.iload_n 2, 1) := by decide +kernel
theorem dX5_skyLine_52 : decode cX5_skyLine 52 = .ok (.bipush 34, 2) := by decide +kernel
theorem dX5_skyLine_54 : decode cX5_skyLine 54 = .ok (.if_icmp .ne 7, 3) := by decide +kernel
theorem dX5_skyLine_57 : decode cX5_skyLine 57 = .ok (.iconst 1, 1) := by decide +kernel
theorem dX5_skyLine_58 : decode cX5_skyLine 58 = .ok (.goto 4, 3) := by decide +kernel
theorem dX5_skyLine_61 : decode cX5_skyLine 61 = .ok (.iconst 0, 1) := by decide +kernel
theorem dX5_skyLine_62 : decode cX5_skyLine 62 = .ok (.invokevirtual 76, 3) := by decide +kernel
theorem dX5_skyLine_65 : decode cX5_skyLine 65 = .ok (.aload_n 0, 1) := by decide +kernel
theorem dX5_skyLine_66 : decode cX5_skyLine 66 = .ok (.iconst 0, 1) := by decide +kernel
theorem dX5_skyLine_67 : decode cX5_skyLine 67 = .ok (.iload_n 2, 1) := by decide +kernel
theorem dX5_skyLine_68 : decode cX5_skyLine 68 = .ok (.bipush 34, 2) := by decide +kernel
theorem dX5_skyLine_70 : decode cX5_skyLine 70 = .ok (.if_icmp .ne 18, 3) := by decide +kernel
theorem dX5_skyLine_73 : decode cX5_skyLine 73 = .ok (.aload_n 0, 1) := by decide +kernel
theorem dX5_skyLine_74 : decode cX5_skyLine 74 = .ok (.getfield 36, 3) := by decide +kernel
theorem dX5_skyLine_77 : decode cX5_skyLine 77 = .ok (.getfield 144, 3) := by decide +kernel
theorem dX5_skyLine_80 : decode cX5_skyLine 80 = .ok (.getfield 89, 3) := by decide +kernel
theorem dX5_skyLine_83 : decode cX5_skyLine 83 = .ok (.iconst 1, 1) := by decide +kernel
theorem dX5_skyLine_84 : decode cX5_skyLine 84 = .ok (.isub, 1) := by decide +kernel
theorem dX5_skyLine_85 : decode cX5_skyLine 85 = .ok (.goto 5, 3) := by decide +kernel
theorem dX5_skyLine_88 : decode cX5_skyLine 88 = .ok (.bipush 9, 2) := by decide +kernel
theorem dX5_skyLine_90 : decode cX5_skyLine 90 = .ok (.invokevirtual 129, 3) := by decide +kernel
theorem dX5_skyLine_93 : decode cX5_skyLine 93 = .ok (.istore_n 3, 1) := by decide +kernel
theorem dX5_skyLine_94 : decode cX5_skyLine 94 = .ok (.aload_n 0, 1) := by decide +kernel
theorem dX5_skyLine_95 : decode cX5_skyLine 95 = .ok (.aload_n 0, 1) := by decide +kernel
theorem dX5_skyLine_96 : decode cX5_skyLine 96 = .ok (.getfield 49, 3) := by decide +kernel
theorem dX5_skyLine_99 : decode cX5_skyLine 99 = .ok (.iconst 3, 1) := by decide +kernel
theorem dX5_skyLine_100 : decode cX5_skyLine 100 = .ok (.if_icmp .ne 7, 3) := by decide +kernel
theorem dX5_skyLine_103 : decode cX5_skyLine 103 = .ok (.iconst 1, 1) := by decide +kernel
theorem dX5_skyLine_104 : decode cX5_skyLine 104 = .ok (.goto 4, 3) := by decide +kernel
theorem dX5_skyLine_107 : decode cX5_skyLine 107 = .ok (.iconst 0, 1) := by decide +kernel
theorem dX5_skyLine_108 : decode cX5_skyLine 108 = .ok (.invokevirtual 76, 3) := by decide +kernel
theorem dX5_skyLine_111 : decode cX5_skyLine 111 = .ok (.aload_n 0, 1) := by decide +kernel
theorem dX5_skyLine_112 : decode cX5_skyLine 112 = .ok (.getfield 12, 3) := by decide +kernel
theorem dX5_skyLine_115 : decode cX5_skyLine 115 = .ok (.getfield 147, 3) := by decide +kernel
theorem dX5_skyLine_118 : decode cX5_skyLine 118 = .ok (.iload_n 1, 1) := by decide +kernel
theorem dX5_skyLine_119 : decode cX5_skyLine 119 = .ok (.iload_n 2, 1) := by decide +kernel
theorem dX5_skyLine_120 : decode cX5_skyLine 120 = .ok (.iload_n 3, 1) := by decide +kernel
theorem dX5_skyLine_121 : decode cX5_skyLine 121 = .ok (.iconst 0, 1) := by decide +kernel
theorem dX5_skyLine_122 : decode cX5_skyLine 122 = .ok (.iconst 0, 1) := by decide +kernel
theorem dX5_skyLine_123 : decode cX5_skyLine 123 = .ok (.invokevirtual 106, 3) := by decide +kernel
theorem dX5_skyLine_126 : decode cX5_skyLine 126 = .ok (.pop, 1) := by decide +kernel
theorem dX5_skyLine_127 : decode cX5_skyLine 127 = .ok (.return_, 1) := by decide +kernel
theorem dX5_nearLine_0 : decode cX5_nearLine 0 = .ok (.aload_n 0, 1) := by decide +kernel
theorem dX5_nearLine_1 : decode cX5_nearLine 1 = .ok (.aload_n 0, 1) := by decide +kernel
theorem dX5_nearLine_2 : decode cX5_nearLine 2 = .ok (.getfield 49, 3) := by decide +kernel
theorem dX5_nearLine_5 : decode cX5_nearLine 5 = .ok (.bipush 35, 2) := by decide +kernel
theorem dX5_nearLine_7 : decode cX5_nearLine 7 = .ok (.if_icmp .ne 7, 3) := by decide +kernel
theorem dX5_nearLine_10 : decode cX5_nearLine 10 = .ok (.iconst 1, 1) := by decide +kernel
theorem dX5_nearLine_11 : decode cX5_nearLine 11 = .ok (.goto 4, 3) := by decide +kernel
theorem dX5_nearLine_14 : decode cX5_nearLine 14 = .ok (.iconst 0, 1) := by decide +kernel
theorem dX5_nearLine_15 : decode cX5_nearLine 15 = .ok (.invokevirtual 76, 3) := by decide +kernel
theorem dX5_nearLine_18 : decode cX5_nearLine 18 = .ok (.aload_n 0, 1) := by decide +kernel
theorem dX5_nearLine_19 : decode cX5_nearLine 19 = .ok (.iconst 0, 1) := by decide +kernel
theorem dX5_nearLine_20 : decode cX5_nearLine 20 = .ok (.aload_n 0, 1) := by decide +kernel
theorem dX5_nearLine_21 : decode cX5_nearLine 21 = .ok (.getfield 36, 3) := by decide +kernel
theorem dX5_nearLine_24 : decode cX5_nearLine 24 = .ok (.getfield 144, 3) := by decide +kernel
theorem dX5_nearLine_27 : decode cX5_nearLine 27 = .ok (.getfield 89, 3) := by decide +kernel
theorem dX5_nearLine_30 : decode cX5_nearLine 30 = .ok (.iconst 1, 1) := by decide +kernel
theorem dX5_nearLine_31 : decode cX5_nearLine 31 = .ok (.isub, 1) := by decide +kernel
theorem dX5_nearLine_32 : decode cX5_nearLine 32 = .ok (.invokevirtual 129, 3) := by decide +kernel
theorem dX5_nearLine_35 : decode cX5_nearLine 35 = .ok (.istore_n 1, 1) := by decide +kernel
theorem dX5_nearLine_36 : decode cX5_nearLine 36 = .ok (.aload_n 0, 1) := by decide +kernel
theorem dX5_nearLine_37 : decode cX5_nearLine 37 = .ok (.aload_n 0, 1) := by decide +kernel
theorem dX5_nearLine_38 : decode cX5_nearLine 38 = .ok (.getfield 49, 3) := by decide +kernel
theorem dX5_nearLine_41 : decode cX5_nearLine 41 = .ok (.bipush 23, 2) := by decide +kernel
theorem dX5_nearLine_43 : decode cX5_nearLine 43 = .ok (.if_icmp .ne 7, 3) := by decide +kernel
theorem dX5_nearLine_46 : decode cX5_nearLine 46 = .ok (.iconst 1, 1) := by decide +kernel
theorem dX5_nearLine_47 : decode cX5_nearLine 47 = .ok (.goto 4, 3) := by decide +kernel
theorem dX5_nearLine_50 : decode cX5_nearLine 50 = .ok (.iconst 0, 1) := by decide +kernel
theorem dX5_nearLine_51 : decode cX5_nearLine 51 = .ok (.invokevirtual 76, 3) := by decide +kernel
theorem dX5_nearLine_54 : decode cX5_nearLine 54 = .ok (.aload_n 0, 1) := by decide +kernel
theorem dX5_nearLine_55 : decode cX5_nearLine 55 = .ok (.getfield 40, 3) := by decide +kernel
theorem dX5_nearLine_58 : decode cX5_nearLine 58 = .ok (.ifCond .ne 31, 3) := by decide +kernel
theorem dX5_nearLine_61 : decode cX5_nearLine 61 = .ok (.aload_n 0, 1) := by decide +kernel
theorem dX5_nearLine_62 : decode cX5_nearLine 62 = .ok (.getfield 49, 3) := by decide +kernel
theorem dX5_nearLine_65 : decode cX5_nearLine 65 = .ok (.iconst 2, 1) := by decide +kernel
theorem dX5_nearLine_66 : decode cX5_nearLine 66 = .ok (.if_icmp .ne 23, 3) := by decide +kernel
theorem dX5_nearLine_69 : decode cX5_nearLine 69 = .ok (.aload_n 0, 1) := by decide +kernel
theorem dX5_nearLine_70 : decode cX5_nearLine 70 = .ok (.getfield 26, 3) := by decide +kernel
theorem dX5_nearLine_73 : decode cX5_nearLine 73 = .ok (.aload_n 0, 1) := by decide +kernel
theorem dX5_nearLine_74 : decode cX5_nearLine 74 = .ok (.getfield 122, 3) := by decide +kernel
theorem dX5_nearLine_77 : decode cX5_nearLine 77 = .ok (.invokestatic 125, 3) := by decide +kernel
theorem dX5_nearLine_80 : decode cX5_nearLine 80 = .ok (.iload_n 1, 1) := by decide +kernel
theorem dX5_nearLine_81 : decode cX5_nearLine 81 = .ok (.if_icmp .ne 8, 3) := by decide +kernel
theorem dX5_nearLine_84 : decode cX5_nearLine 84 = .ok (.aload_n 0, 1) := by decide +kernel
theorem dX5_nearLine_85 : decode cX5_nearLine 85 = .ok (.iconst 2, 1) := by decide +kernel
theorem dX5_nearLine_86 : decode cX5_nearLine 86 = .ok (.invokevirtual 56, 3) := by decide +kernel
theorem dX5_nearLine_89 : decode cX5_nearLine 89 = .ok (.aload_n 0, 1) := by decide +kernel
theorem dX5_nearLine_90 : decode cX5_nearLine 90 = .ok (.iconst 0, 1) := by decide +kernel
theorem dX5_nearLine_91 : decode cX5_nearLine 91 = .ok (.aload_n 0, 1) := by decide +kernel
theorem dX5_nearLine_92 : decode cX5_nearLine 92 = .ok (.getfield 36, 3) := by decide +kernel
theorem dX5_nearLine_95 : decode cX5_nearLine 95 = .ok (.getfield 144, 3) := by decide +kernel
theorem dX5_nearLine_98 : decode cX5_nearLine 98 = .ok (.getfield 89, 3) := by decide +kernel
theorem dX5_nearLine_101 : decode cX5_nearLine 101 = .ok (.iconst 1, 1) := by decide +kernel
theorem dX5_nearLine_102 : decode cX5_nearLine 102 = .ok (.isub, 1) := by decide +kernel
theorem dX5_nearLine_103 : decode cX5_nearLine 103 = .ok (.invokevirtual 129, 3) := by decide +kernel
theorem dX5_nearLine_106 : decode cX5_nearLine 106 = .ok (.istore_n 2, 1) := by decide +kernel
theorem dX5_nearLine_107 : decode cX5_nearLine 107 = .ok (.aload_n 0, 1) := by decide +kernel
theorem dX5_nearLine_108 : decode cX5_nearLine 108 = .ok (.aload_n 0, 1) := by decide +kernel
theorem dX5_nearLine_109 : decode cX5_nearLine 109 = .ok (.getfield 49, 3) := by decide +kernel
theorem dX5_nearLine_112 : decode cX5_nearLine 112 = .ok (.iconst 3, 1) := by decide +kernel
theorem dX5_nearLine_113 : decode cX5_nearLine 113 = .ok (.if_icmp .ne 7, 3) := by decide +kernel
theorem dX5_nearLine_116 : decode cX5_nearLine 116 = .ok (.iconst 1, 1) := by decide +kernel
theorem dX5_nearLine_117 : decode cX5_nearLine 117 = .ok (.goto 4, 3) := by decide +kernel
theorem dX5_nearLine_120 : decode cX5_nearLine 120 = .ok (.iconst 0, 1) := by decide +kernel
theorem dX5_nearLine_121 : decode cX5_nearLine 121 = .ok (.invokevirtual 76, 3) := by decide +kernel
theorem dX5_nearLine_124 : decode cX5_nearLine 124 = .ok (.aload_n 0, 1) := by decide +kernel
theorem dX5_nearLine_125 : decode cX5_nearLine 125 = .ok (.getfield 12, 3) := by decide +kernel
theorem dX5_nearLine_128 : decode cX5_nearLine 128 = .ok (.getfield 150, 3) := by decide +kernel
theorem dX5_nearLine_131 : decode cX5_nearLine 131 = .ok (.iload_n 1, 1) := by decide +kernel
theorem dX5_nearLine_132 : decode cX5_nearLine 132 = .ok (.iload_n 2, 1) := by decide +kernel
theorem dX5_nearLine_133 : decode cX5_nearLine 133 = .ok (.iconst 0, 1) := by decide +kernel
theorem dX5_nearLine_134 : decode cX5_nearLine 134 = .ok (.iconst 0, 1) := by decide +kernel
theorem dX5_nearLine_135 : decode cX5_nearLine 135 = .ok (.iconst 0, 1) := by decide +kernel
theorem dX5_nearLine_136 : decode cX5_nearLine 136 = .ok (.invokevirtual 106, 3) := by decide +kernel
theorem dX5_nearLine_139 : decode cX5_nearLine 139 = .ok (.pop, 1) := by decide +kernel
theorem dX5_nearLine_140 : decode cX5_nearLine 140 = .ok (.return_, 1) := by decide +kernel
theorem dX5_expect_0 : decode cX5_expect 0 = .ok (.iload_n 1, 1) := by decide +kernel
theorem dX5_expect_1 : decode cX5_expect 1 = .ok (.ifCond .ne 11, 3) := by decide +kernel
theorem dX5_expect_4 : decode cX5_expect 4 = .ok (.aload_n 0, 1) := by decide +kernel
theorem dX5_expect_5 : decode cX5_expect 5 = .ok (.iconst 1, 1) := by decide +kernel
theorem dX5_expect_6 : decode cX5_expect 6 = .ok (.invokevirtual 56, 3) := by decide +kernel
theorem dX5_expect_9 : decode cX5_expect 9 = .ok (.goto 7, 3) := by decide +kernel
theorem dX5_expect_12 : decode cX5_expect 12 = .ok (.aload_n 0, 1) := by decide +kernel
theorem dX5_expect_13 : decode cX5_expect 13 = .ok (.invokevirtual 97, 3) := by decide +kernel
theorem dX5_expect_16 : decode cX5_expect 16 = .ok (.return_, 1) := by decide +kernel
theorem dX5_number_0 : decode cX5_number 0 = .ok (.aload_n 0, 1) := by decide +kernel
theorem dX5_number_1 : decode cX5_number 1 = .ok (.getfield 26, 3) := by decide +kernel
theorem dX5_number_4 : decode cX5_number 4 = .ok (.aload_n 0, 1) := by decide +kernel
theorem dX5_number_5 : decode cX5_number 5 = .ok (.getfield 122, 3) := by decide +kernel
theorem dX5_number_8 : decode cX5_number 8 = .ok (.invokestatic 125, 3) := by decide +kernel
theorem dX5_number_11 : decode cX5_number 11 = .ok (.istore_n 3, 1) := by decide +kernel
theorem dX5_number_12 : decode cX5_number 12 = .ok (.aload_n 0, 1) := by decide +kernel
theorem dX5_number_13 : decode cX5_number 13 = .ok (.getfield 49, 3) := by decide +kernel
theorem dX5_number_16 : decode cX5_number 16 = .ok (.iconst 2, 1) := by decide +kernel
theorem dX5_number_17 : decode cX5_number 17 = .ok (.if_icmp .eq 11, 3) := by decide +kernel
theorem dX5_number_20 : decode cX5_number 20 = .ok (.aload_n 0, 1) := by decide +kernel
theorem dX5_number_21 : decode cX5_number 21 = .ok (.iconst 1, 1) := by decide +kernel
theorem dX5_number_22 : decode cX5_number 22 = .ok (.invokevirtual 56, 3) := by decide +kernel
theorem dX5_number_25 : decode cX5_number 25 = .ok (.goto 25, 3) := by decide +kernel
theorem dX5_number_28 : decode cX5_number 28 = .ok (.iload_n 3, 1) := by decide +kernel
theorem dX5_number_29 : decode cX5_number 29 = .ok (.iload_n 1, 1) := by decide +kernel
theorem dX5_number_30 : decode cX5_number 30 = .ok (.if_icmp .lt 8, 3) := by decide +kernel
theorem dX5_number_33 : decode cX5_number 33 = .ok (.iload_n 3, 1) := by decide +kernel
theorem dX5_number_34 : decode cX5_number 34 = .ok (.iload_n 2, 1) := by decide +kernel
theorem dX5_number_35 : decode cX5_number 35 = .ok (.if_icmp .le 11, 3) := by decide +kernel
theorem dX5_number_38 : decode cX5_number 38 = .ok (.aload_n 0, 1) := by decide +kernel
theorem dX5_number_39 : decode cX5_number 39 = .ok (.iconst 2, 1) := by decide +kernel
theorem dX5_number_40 : decode cX5_number 40 = .ok (.invokevirtual 56, 3) := by decide +kernel
theorem dX5_number_43 : decode cX5_number 43 = .ok (.goto 7, 3) := by decide +kernel
theorem dX5_number_46 : decode cX5_number 46 = .ok (.aload_n 0, 1) := by decide +kernel
theorem dX5_number_47 : decode cX5_number 47 = .ok (.invokevirtual 97, 3) := by decide +kernel
theorem dX5_number_50 : decode cX5_number 50 = .ok (.iload_n 3, 1) := by decide +kernel
theorem dX5_number_51 : decode cX5_number 51 = .ok (.ireturn, 1) := by decide +kernel
theorem dX5_fail_0 : decode cX5_fail 0 = .ok (.aload_n 0, 1) := by decide +kernel
theorem dX5_fail_1 : decode cX5_fail 1 = .ok (.getfield 40, 3) := by decide +kernel
theorem dX5_fail_4 : decode cX5_fail 4 = .ok (.ifCond .ne 23, 3) := by decide +kernel
theorem dX5_fail_7 : decode cX5_fail 7 = .ok (.aload_n 0, 1) := by decide +kernel
theorem dX5_fail_8 : decode cX5_fail 8 = .ok (.iload_n 1, 1) := by decide +kernel
theorem dX5_fail_9 : decode cX5_fail 9 = .ok (.putfield 40, 3) := by decide +kernel
theorem dX5_fail_12 : decode cX5_fail 12 = .ok (.aload_n 0, 1) := by decide +kernel
theorem dX5_fail_13 : decode cX5_fail 13 = .ok (.aload_n 0, 1) := by decide +kernel
theorem dX5_fail_14 : decode cX5_fail 14 = .ok (.getfield 29, 3) := by decide +kernel
theorem dX5_fail_17 : decode cX5_fail 17 = .ok (.aload_n 0, 1) := by decide +kernel
theorem dX5_fail_18 : decode cX5_fail 18 = .ok (.getfield 122, 3) := by decide +kernel
theorem dX5_fail_21 : decode cX5_fail 21 = .ok (.invokestatic 125, 3) := by decide +kernel
theorem dX5_fail_24 : decode cX5_fail 24 = .ok (.putfield 18, 3) := by decide +kernel
theorem dX5_fail_27 : decode cX5_fail 27 = .ok (.return_, 1) := by decide +kernel
theorem dX5_step_0 : decode cX5_step 0 = .ok (.aload_n 0, 1) := by decide +kernel
theorem dX5_step_1 : decode cX5_step 1 = .ok (.getfield 40, 3) := by decide +kernel
theorem dX5_step_4 : decode cX5_step 4 = .ok (.ifCond .ne 41, 3) := by decide +kernel
theorem dX5_step_7 : decode cX5_step 7 = .ok (.aload_n 0, 1) := by decide +kernel
theorem dX5_step_8 : decode cX5_step 8 = .ok (.getfield 122, 3) := by decide +kernel
theorem dX5_step_11 : decode cX5_step 11 = .ok (.iconst 1, 1) := by decide +kernel
theorem dX5_step_12 : decode cX5_step 12 = .ok (.iadd, 1) := by decide +kernel
theorem dX5_step_13 : decode cX5_step 13 = .ok (.aload_n 0, 1) := by decide +kernel
theorem dX5_step_14 : decode cX5_step 14 = .ok (.getfield 110, 3) := by decide +kernel
theorem dX5_step_17 : decode cX5_step 17 = .ok (.if_icmp .ge 28, 3) := by decide +kernel
theorem dX5_step_20 : decode cX5_step 20 = .ok (.aload_n 0, 1) := by decide +kernel
theorem dX5_step_21 : decode cX5_step 21 = .ok (.dup, 1) := by decide +kernel
theorem dX5_step_22 : decode cX5_step 22 = .ok (.getfield 122, 3) := by decide +kernel
theorem dX5_step_25 : decode cX5_step 25 = .ok (.iconst 1, 1) := by decide +kernel
theorem dX5_step_26 : decode cX5_step 26 = .ok (.iadd, 1) := by decide +kernel
theorem dX5_step_27 : decode cX5_step 27 = .ok (.putfield 122, 3) := by decide +kernel
theorem dX5_step_30 : decode cX5_step 30 = .ok (.aload_n 0, 1) := by decide +kernel
theorem dX5_step_31 : decode cX5_step 31 = .ok (.aload_n 0, 1) := by decide +kernel
theorem dX5_step_32 : decode cX5_step 32 = .ok (.getfield 22, 3) := by decide +kernel
theorem dX5_step_35 : decode cX5_step 35 = .ok (.aload_n 0, 1) := by decide +kernel
theorem dX5_step_36 : decode cX5_step 36 = .ok (.getfield 122, 3) := by decide +kernel
theorem dX5_step_39 : decode cX5_step 39 = .ok (.invokestatic 125, 3) := by decide +kernel
theorem dX5_step_42 : decode cX5_step 42 = .ok (.putfield 49, 3) := by decide +kernel
theorem dX5_step_45 : decode cX5_step 45 = .ok (.return_, 1) := by decide +kernel
theorem dX5_emit_0 : decode cX5_emit 0 = .ok (.aload_n 0, 1) := by decide +kernel
theorem dX5_emit_1 : decode cX5_emit 1 = .ok (.getfield 12, 3) := by decide +kernel
theorem dX5_emit_4 : decode cX5_emit 4 = .ok (.getfield 80, 3) := by decide +kernel
theorem dX5_emit_7 : decode cX5_emit 7 = .ok (.getfield 84, 3) := by decide +kernel
theorem dX5_emit_10 : decode cX5_emit 10 = .ok (.iload_n 1, 1) := by decide +kernel
theorem dX5_emit_11 : decode cX5_emit 11 = .ok (.iconst 0, 1) := by decide +kernel
theorem dX5_emit_12 : decode cX5_emit 12 = .ok (.iconst 0, 1) := by decide +kernel
theorem dX5_emit_13 : decode cX5_emit 13 = .ok (.iconst 0, 1) := by decide +kernel
theorem dX5_emit_14 : decode cX5_emit 14 = .ok (.iconst 0, 1) := by decide +kernel
theorem dX5_emit_15 : decode cX5_emit 15 = .ok (.invokevirtual 106, 3) := by decide +kernel
theorem dX5_emit_18 : decode cX5_emit 18 = .ok (.pop, 1) := by decide +kernel
theorem dX5_emit_19 : decode cX5_emit 19 = .ok (.return_, 1) := by decide +kernel
theorem dX5_scan_0 : decode cX5_scan 0 = .ok (.aload_n 0, 1) := by decide +kernel
theorem dX5_scan_1 : decode cX5_scan 1 = .ok (.iconst 0, 1) := by decide +kernel
theorem dX5_scan_2 : decode cX5_scan 2 = .ok (.putfield 110, 3) := by decide +kernel
theorem dX5_scan_5 : decode cX5_scan 5 = .ok (.iconst 0, 1) := by decide +kernel
theorem dX5_scan_6 : decode cX5_scan 6 = .ok (.istore_n 1, 1) := by decide +kernel
theorem dX5_scan_7 : decode cX5_scan 7 = .ok (.iconst 0, 1) := by decide +kernel
theorem dX5_scan_8 : decode cX5_scan 8 = .ok (.istore_n 2, 1) := by decide +kernel
theorem dX5_scan_9 : decode cX5_scan 9 = .ok (.iload_n 2, 1) := by decide +kernel
theorem dX5_scan_10 : decode cX5_scan 10 = .ok (.aload_n 0, 1) := by decide +kernel
theorem dX5_scan_11 : decode cX5_scan 11 = .ok (.getfield 32, 3) := by decide +kernel
theorem dX5_scan_14 : decode cX5_scan 14 = .ok (.getfield 89, 3) := by decide +kernel
theorem dX5_scan_17 : decode cX5_scan 17 = .ok (.if_icmp .ge 164, 3) := by decide +kernel
theorem dX5_scan_20 : decode cX5_scan 20 = .ok (.iload_n 1, 1) := by decide +kernel
theorem dX5_scan_21 : decode cX5_scan 21 = .ok (.aload_n 0, 1) := by decide +kernel
theorem dX5_scan_22 : decode cX5_scan 22 = .ok (.getfield 32, 3) := by decide +kernel
theorem dX5_scan_25 : decode cX5_scan 25 = .ok (.getfield 89, 3) := by decide +kernel
theorem dX5_scan_28 : decode cX5_scan 28 = .ok (.if_icmp .ge 153, 3) := by decide +kernel
theorem dX5_scan_31 : decode cX5_scan 31 = .ok (.aload_n 0, 1) := by decide +kernel
theorem dX5_scan_32 : decode cX5_scan 32 = .ok (.getfield 32, 3) := by decide +kernel
theorem dX5_scan_35 : decode cX5_scan 35 = .ok (.iload_n 1, 1) := by decide +kernel
theorem dX5_scan_36 : decode cX5_scan 36 = .ok (.iconst 0, 1) := by decide +kernel
theorem dX5_scan_37 : decode cX5_scan 37 = .ok (.invokevirtual 153, 3) := by decide +kernel
theorem dX5_scan_40 : decode cX5_scan 40 = .ok (.invokestatic 156, 3) := by decide +kernel
theorem dX5_scan_43 : decode cX5_scan 43 = .ok (.istore_n 3, 1) := by decide +kernel
theorem dX5_scan_44 : decode cX5_scan 44 = .ok (.iload_n 1, 1) := by decide +kernel
theorem dX5_scan_45 : decode cX5_scan 45 = .ok (.iconst 1, 1) := by decide +kernel
theorem dX5_scan_46 : decode cX5_scan 46 = .ok (.iadd, 1) := by decide +kernel
theorem dX5_scan_47 : decode cX5_scan 47 = .ok (.istore 4, 2) := by decide +kernel
theorem dX5_scan_49 : decode cX5_scan 49 = .ok (.iload_n 3, 1) := by decide +kernel
theorem dX5_scan_50 : decode cX5_scan 50 = .ok (.ifCond .eq 38, 3) := by decide +kernel
theorem dX5_scan_53 : decode cX5_scan 53 = .ok (.iload 4, 2) := by decide +kernel
theorem dX5_scan_55 : decode cX5_scan 55 = .ok (.aload_n 0, 1) := by decide +kernel
theorem dX5_scan_56 : decode cX5_scan 56 = .ok (.getfield 32, 3) := by decide +kernel
theorem dX5_scan_59 : decode cX5_scan 59 = .ok (.getfield 89, 3) := by decide +kernel
theorem dX5_scan_62 : decode cX5_scan 62 = .ok (.if_icmp .ge 26, 3) := by decide +kernel
theorem dX5_scan_65 : decode cX5_scan 65 = .ok (.aload_n 0, 1) := by decide +kernel
theorem dX5_scan_66 : decode cX5_scan 66 = .ok (.getfield 32, 3) := by decide +kernel
theorem dX5_scan_69 : decode cX5_scan 69 = .ok (.iload 4, 2) := by decide +kernel
theorem dX5_scan_71 : decode cX5_scan 71 = .ok (.iconst 0, 1) := by decide +kernel
theorem dX5_scan_72 : decode cX5_scan 72 = .ok (.invokevirtual 153, 3) := by decide +kernel
theorem dX5_scan_75 : decode cX5_scan 75 = .ok (.invokestatic 156, 3) := by decide +kernel
theorem dX5_scan_78 : decode cX5_scan 78 = .ok (.iload_n 3, 1) := by decide +kernel
theorem dX5_scan_79 : decode cX5_scan 79 = .ok (.if_icmp .ne 9, 3) := by decide +kernel
theorem dX5_scan_82 : decode cX5_scan 82 = .ok (.iinc 4 1, 3) := by decide +kernel
theorem dX5_scan_85 : decode cX5_scan 85 = .ok (.goto (-36), 3) := by decide +kernel
theorem dX5_scan_88 : decode cX5_scan 88 = .ok (.iload_n 3, 1) := by decide +kernel
theorem dX5_scan_89 : decode cX5_scan 89 = .ok (.bipush 97, 2) := by decide +kernel
theorem dX5_scan_91 : decode cX5_scan 91 = .ok (.if_icmp .ne 19, 3) := by decide +kernel
theorem dX5_scan_94 : decode cX5_scan 94 = .ok (.aload_n 0, 1) := by decide +kernel
theorem dX5_scan_95 : decode cX5_scan 95 = .ok (.aload_n 0, 1) := by decide +kernel
theorem dX5_scan_96 : decode cX5_scan 96 = .ok (.iload_n 1, 1) := by decide +kernel
theorem dX5_scan_97 : decode cX5_scan 97 = .ok (.iload 4, 2) := by decide +kernel
theorem dX5_scan_99 : decode cX5_scan 99 = .ok (.invokevirtual 159, 3) := by decide +kernel
theorem dX5_scan_102 : decode cX5_scan 102 = .ok (.iconst 0, 1) := by decide +kernel
theorem dX5_scan_103 : decode cX5_scan 103 = .ok (.iload_n 1, 1) := by decide +kernel
theorem dX5_scan_104 : decode cX5_scan 104 = .ok (.invokevirtual 162, 3) := by decide +kernel
theorem dX5_scan_107 : decode cX5_scan 107 = .ok (.goto 65, 3) := by decide +kernel
theorem dX5_scan_110 : decode cX5_scan 110 = .ok (.iload_n 3, 1) := by decide +kernel
theorem dX5_scan_111 : decode cX5_scan 111 = .ok (.bipush 48, 2) := by decide +kernel
theorem dX5_scan_113 : decode cX5_scan 113 = .ok (.if_icmp .ne 13, 3) := by decide +kernel
theorem dX5_scan_116 : decode cX5_scan 116 = .ok (.aload_n 0, 1) := by decide +kernel
theorem dX5_scan_117 : decode cX5_scan 117 = .ok (.iload_n 1, 1) := by decide +kernel
theorem dX5_scan_118 : decode cX5_scan 118 = .ok (.iload 4, 2) := by decide +kernel
theorem dX5_scan_120 : decode cX5_scan 120 = .ok (.invokevirtual 166, 3) := by decide +kernel
theorem dX5_scan_123 : decode cX5_scan 123 = .ok (.goto 49, 3) := by decide +kernel
theorem dX5_scan_126 : decode cX5_scan 126 = .ok (.aload_n 0, 1) := by decide +kernel
theorem dX5_scan_127 : decode cX5_scan 127 = .ok (.getfield 32, 3) := by decide +kernel
theorem dX5_scan_130 : decode cX5_scan 130 = .ok (.iload_n 1, 1) := by decide +kernel
theorem dX5_scan_131 : decode cX5_scan 131 = .ok (.iconst 0, 1) := by decide +kernel
theorem dX5_scan_132 : decode cX5_scan 132 = .ok (.invokevirtual 153, 3) := by decide +kernel
theorem dX5_scan_135 : decode cX5_scan 135 = .ok (.bipush 32, 2) := by decide +kernel
theorem dX5_scan_137 : decode cX5_scan 137 = .ok (.if_icmp .eq 35, 3) := by decide +kernel
theorem dX5_scan_140 : decode cX5_scan 140 = .ok (.aload_n 0, 1) := by decide +kernel
theorem dX5_scan_141 : decode cX5_scan 141 = .ok (.getfield 32, 3) := by decide +kernel
theorem dX5_scan_144 : decode cX5_scan 144 = .ok (.iload_n 1, 1) := by decide +kernel
theorem dX5_scan_145 : decode cX5_scan 145 = .ok (.iconst 0, 1) := by decide +kernel
theorem dX5_scan_146 : decode cX5_scan 146 = .ok (.invokevirtual 153, 3) := by decide +kernel
theorem dX5_scan_149 : decode cX5_scan 149 = .ok (.bipush 10, 2) := by decide +kernel
theorem dX5_scan_151 : decode cX5_scan 151 = .ok (.if_icmp .eq 21, 3) := by decide +kernel
theorem dX5_scan_154 : decode cX5_scan 154 = .ok (.aload_n 0, 1) := by decide +kernel
theorem dX5_scan_155 : decode cX5_scan 155 = .ok (.aload_n 0, 1) := by decide +kernel
theorem dX5_scan_156 : decode cX5_scan 156 = .ok (.getfield 32, 3) := by decide +kernel
theorem dX5_scan_159 : decode cX5_scan 159 = .ok (.iload_n 1, 1) := by decide +kernel
theorem dX5_scan_160 : decode cX5_scan 160 = .ok (.iconst 0, 1) := by decide +kernel
theorem dX5_scan_161 : decode cX5_scan 161 = .ok (.invokevirtual 153, 3) := by decide +kernel
theorem dX5_scan_164 : decode cX5_scan 164 = .ok (.invokestatic 170, 3) := by decide +kernel
theorem dX5_scan_167 : decode cX5_scan 167 = .ok (.iconst 0, 1) := by decide +kernel
theorem dX5_scan_168 : decode cX5_scan 168 = .ok (.iload_n 1, 1) := by decide +kernel
theorem dX5_scan_169 : decode cX5_scan 169 = .ok (.invokevirtual 162, 3) := by decide +kernel
theorem dX5_scan_172 : decode cX5_scan 172 = .ok (.iload 4, 2) := by decide +kernel
theorem dX5_scan_174 : decode cX5_scan 174 = .ok (.istore_n 1, 1) := by decide +kernel
theorem dX5_scan_175 : decode cX5_scan 175 = .ok (.iinc 2 1, 3) := by decide +kernel
theorem dX5_scan_178 : decode cX5_scan 178 = .ok (.goto (-169), 3) := by decide +kernel
theorem dX5_scan_181 : decode cX5_scan 181 = .ok (.aload_n 0, 1) := by decide +kernel
theorem dX5_scan_182 : decode cX5_scan 182 = .ok (.iconst 0, 1) := by decide +kernel
theorem dX5_scan_183 : decode cX5_scan 183 = .ok (.iconst 0, 1) := by decide +kernel
theorem dX5_scan_184 : decode cX5_scan 184 = .ok (.aload_n 0, 1) := by decide +kernel
theorem dX5_scan_185 : decode cX5_scan 185 = .ok (.getfield 32, 3) := by decide +kernel
theorem dX5_scan_188 : decode cX5_scan 188 = .ok (.getfield 89, 3) := by decide +kernel
theorem dX5_scan_191 : decode cX5_scan 191 = .ok (.invokevirtual 162, 3) := by decide +kernel
theorem dX5_scan_194 : decode cX5_scan 194 = .ok (.aload_n 0, 1) := by decide +kernel
theorem dX5_scan_195 : decode cX5_scan 195 = .ok (.iconst 0, 1) := by decide +kernel
theorem dX5_scan_196 : decode cX5_scan 196 = .ok (.putfield 122, 3) := by decide +kernel
theorem dX5_scan_199 : decode cX5_scan 199 = .ok (.aload_n 0, 1) := by decide +kernel
theorem dX5_scan_200 : decode cX5_scan 200 = .ok (.aload_n 0, 1) := by decide +kernel
theorem dX5_scan_201 : decode cX5_scan 201 = .ok (.getfield 22, 3) := by decide +kernel
theorem dX5_scan_204 : decode cX5_scan 204 = .ok (.iconst 0, 1) := by decide +kernel
theorem dX5_scan_205 : decode cX5_scan 205 = .ok (.invokestatic 125, 3) := by decide +kernel
theorem dX5_scan_208 : decode cX5_scan 208 = .ok (.putfield 49, 3) := by decide +kernel
theorem dX5_scan_211 : decode cX5_scan 211 = .ok (.return_, 1) := by decide +kernel
theorem dX5_sortOf_0 : decode cX5_sortOf 0 = .ok (.iload_n 0, 1) := by decide +kernel
theorem dX5_sortOf_1 : decode cX5_sortOf 1 = .ok (.bipush 97, 2) := by decide +kernel
theorem dX5_sortOf_3 : decode cX5_sortOf 3 = .ok (.if_icmp .lt 9, 3) := by decide +kernel
theorem dX5_sortOf_6 : decode cX5_sortOf 6 = .ok (.iload_n 0, 1) := by decide +kernel
theorem dX5_sortOf_7 : decode cX5_sortOf 7 = .ok (.bipush 122, 2) := by decide +kernel
theorem dX5_sortOf_9 : decode cX5_sortOf 9 = .ok (.if_icmp .le 15, 3) := by decide +kernel
theorem dX5_sortOf_12 : decode cX5_sortOf 12 = .ok (.iload_n 0, 1) := by decide +kernel
theorem dX5_sortOf_13 : decode cX5_sortOf 13 = .ok (.bipush 65, 2) := by decide +kernel
theorem dX5_sortOf_15 : decode cX5_sortOf 15 = .ok (.if_icmp .lt 12, 3) := by decide +kernel
theorem dX5_sortOf_18 : decode cX5_sortOf 18 = .ok (.iload_n 0, 1) := by decide +kernel
theorem dX5_sortOf_19 : decode cX5_sortOf 19 = .ok (.bipush 90, 2) := by decide +kernel
theorem dX5_sortOf_21 : decode cX5_sortOf 21 = .ok (.if_icmp .gt 6, 3) := by decide +kernel
theorem dX5_sortOf_24 : decode cX5_sortOf 24 = .ok (.bipush 97, 2) := by decide +kernel
theorem dX5_sortOf_26 : decode cX5_sortOf 26 = .ok (.ireturn, 1) := by decide +kernel
theorem dX5_sortOf_27 : decode cX5_sortOf 27 = .ok (.iload_n 0, 1) := by decide +kernel
theorem dX5_sortOf_28 : decode cX5_sortOf 28 = .ok (.bipush 48, 2) := by decide +kernel
theorem dX5_sortOf_30 : decode cX5_sortOf 30 = .ok (.if_icmp .lt 14, 3) := by decide +kernel
theorem dX5_sortOf_33 : decode cX5_sortOf 33 = .ok (.iload_n 0, 1) := by decide +kernel
theorem dX5_sortOf_34 : decode cX5_sortOf 34 = .ok (.bipush 57, 2) := by decide +kernel
theorem dX5_sortOf_36 : decode cX5_sortOf 36 = .ok (.if_icmp .gt 8, 3) := by decide +kernel
theorem dX5_sortOf_39 : decode cX5_sortOf 39 = .ok (.bipush 48, 2) := by decide +kernel
theorem dX5_sortOf_41 : decode cX5_sortOf 41 = .ok (.goto 4, 3) := by decide +kernel
theorem dX5_sortOf_44 : decode cX5_sortOf 44 = .ok (.iconst 0, 1) := by decide +kernel
theorem dX5_sortOf_45 : decode cX5_sortOf 45 = .ok (.ireturn, 1) := by decide +kernel
theorem dX5_addNumber_0 : decode cX5_addNumber 0 = .ok (.iconst 0, 1) := by decide +kernel
theorem dX5_addNumber_1 : decode cX5_addNumber 1 = .ok (.istore_n 3, 1) := by decide +kernel
theorem dX5_addNumber_2 : decode cX5_addNumber 2 = .ok (.iload_n 1, 1) := by decide +kernel
theorem dX5_addNumber_3 : decode cX5_addNumber 3 = .ok (.istore 4, 2) := by decide +kernel
theorem dX5_addNumber_5 : decode cX5_addNumber 5 = .ok (.iload 4, 2) := by decide +kernel
theorem dX5_addNumber_7 : decode cX5_addNumber 7 = .ok (.iload_n 2, 1) := by decide +kernel
theorem dX5_addNumber_8 : decode cX5_addNumber 8 = .ok (.if_icmp .ge 36, 3) := by decide +kernel
theorem dX5_addNumber_11 : decode cX5_addNumber 11 = .ok (.iload 4, 2) := by decide +kernel
theorem dX5_addNumber_13 : decode cX5_addNumber 13 = .ok (.iload_n 1, 1) := by decide +kernel
theorem dX5_addNumber_14 : decode cX5_addNumber 14 = .ok (.iconst 4, 1) := by decide +kernel
theorem dX5_addNumber_15 : decode cX5_addNumber 15 = .ok (.iadd, 1) := by decide +kernel
theorem dX5_addNumber_16 : decode cX5_addNumber 16 = .ok (.if_icmp .ge 28, 3) := by decide +kernel
theorem dX5_addNumber_19 : decode cX5_addNumber 19 = .ok (.iload_n 3, 1) := by decide +kernel
theorem dX5_addNumber_20 : decode cX5_addNumber 20 = .ok (.bipush 10, 2) := by decide +kernel
theorem dX5_addNumber_22 : decode cX5_addNumber 22 = .ok (.imul, 1) := by decide +kernel
theorem dX5_addNumber_23 : decode cX5_addNumber 23 = .ok (.aload_n 0, 1) := by decide +kernel
theorem dX5_addNumber_24 : decode cX5_addNumber 24 = .ok (.getfield 32, 3) := by decide +kernel
theorem dX5_addNumber_27 : decode cX5_addNumber 27 = .ok (.iload 4, 2) := by decide +kernel
theorem dX5_addNumber_29 : decode cX5_addNumber 29 = .ok (.iconst 0, 1) := by decide +kernel
theorem dX5_addNumber_30 : decode cX5_addNumber 30 = .ok (.invokevirtual 153, 3) := by decide +kernel
theorem dX5_addNumber_33 : decode cX5_addNumber 33 = .ok (.iadd, 1) := by decide +kernel
theorem dX5_addNumber_34 : decode cX5_addNumber 34 = .ok (.bipush 48, 2) := by decide +kernel
theorem dX5_addNumber_36 : decode cX5_addNumber 36 = .ok (.isub, 1) := by decide +kernel
theorem dX5_addNumber_37 : decode cX5_addNumber 37 = .ok (.istore_n 3, 1) := by decide +kernel
theorem dX5_addNumber_38 : decode cX5_addNumber 38 = .ok (.iinc 4 1, 3) := by decide +kernel
theorem dX5_addNumber_41 : decode cX5_addNumber 41 = .ok (.goto (-36), 3) := by decide +kernel
theorem dX5_addNumber_44 : decode cX5_addNumber 44 = .ok (.aload_n 0, 1) := by decide +kernel
theorem dX5_addNumber_45 : decode cX5_addNumber 45 = .ok (.iload_n 2, 1) := by decide +kernel
theorem dX5_addNumber_46 : decode cX5_addNumber 46 = .ok (.iload_n 1, 1) := by decide +kernel
theorem dX5_addNumber_47 : decode cX5_addNumber 47 = .ok (.isub, 1) := by decide +kernel
theorem dX5_addNumber_48 : decode cX5_addNumber 48 = .ok (.iconst 4, 1) := by decide +kernel
theorem dX5_addNumber_49 : decode cX5_addNumber 49 = .ok (.if_icmp .gt 7, 3) := by decide +kernel
theorem dX5_addNumber_52 : decode cX5_addNumber 52 = .ok (.iconst 2, 1) := by decide +kernel
theorem dX5_addNumber_53 : decode cX5_addNumber 53 = .ok (.goto 4, 3) := by decide +kernel
theorem dX5_addNumber_56 : decode cX5_addNumber 56 = .ok (.iconst 1, 1) := by decide +kernel
theorem dX5_addNumber_57 : decode cX5_addNumber 57 = .ok (.iload_n 3, 1) := by decide +kernel
theorem dX5_addNumber_58 : decode cX5_addNumber 58 = .ok (.iload_n 1, 1) := by decide +kernel
theorem dX5_addNumber_59 : decode cX5_addNumber 59 = .ok (.invokevirtual 162, 3) := by decide +kernel
theorem dX5_addNumber_62 : decode cX5_addNumber 62 = .ok (.return_, 1) := by decide +kernel
theorem dX5_addToken_0 : decode cX5_addToken 0 = .ok (.aload_n 0, 1) := by decide +kernel
theorem dX5_addToken_1 : decode cX5_addToken 1 = .ok (.getfield 110, 3) := by decide +kernel
theorem dX5_addToken_4 : decode cX5_addToken 4 = .ok (.aload_n 0, 1) := by decide +kernel
theorem dX5_addToken_5 : decode cX5_addToken 5 = .ok (.getfield 22, 3) := by decide +kernel
theorem dX5_addToken_8 : decode cX5_addToken 8 = .ok (.arraylength, 1) := by decide +kernel
theorem dX5_addToken_9 : decode cX5_addToken 9 = .ok (.if_icmp .ge 43, 3) := by decide +kernel
theorem dX5_addToken_12 : decode cX5_addToken 12 = .ok (.aload_n 0, 1) := by decide +kernel
theorem dX5_addToken_13 : decode cX5_addToken 13 = .ok (.getfield 22, 3) := by decide +kernel
theorem dX5_addToken_16 : decode cX5_addToken 16 = .ok (.aload_n 0, 1) := by decide +kernel
theorem dX5_addToken_17 : decode cX5_addToken 17 = .ok (.getfield 110, 3) := by decide +kernel
theorem dX5_addToken_20 : decode cX5_addToken 20 = .ok (.iload_n 1, 1) := by decide +kernel
theorem dX5_addToken_21 : decode cX5_addToken 21 = .ok (.iastore, 1) := by decide +kernel
theorem dX5_addToken_22 : decode cX5_addToken 22 = .ok (.aload_n 0, 1) := by decide +kernel
theorem dX5_addToken_23 : decode cX5_addToken 23 = .ok (.getfield 26, 3) := by decide +kernel
theorem dX5_addToken_26 : decode cX5_addToken 26 = .ok (.aload_n 0, 1) := by decide +kernel
theorem dX5_addToken_27 : decode cX5_addToken 27 = .ok (.getfield 110, 3) := by decide +kernel
theorem dX5_addToken_30 : decode cX5_addToken 30 = .ok (.iload_n 2, 1) := by decide +kernel
theorem dX5_addToken_31 : decode cX5_addToken 31 = .ok (.iastore, 1) := by decide +kernel
theorem dX5_addToken_32 : decode cX5_addToken 32 = .ok (.aload_n 0, 1) := by decide +kernel
theorem dX5_addToken_33 : decode cX5_addToken 33 = .ok (.getfield 29, 3) := by decide +kernel
theorem dX5_addToken_36 : decode cX5_addToken 36 = .ok (.aload_n 0, 1) := by decide +kernel
theorem dX5_addToken_37 : decode cX5_addToken 37 = .ok (.getfield 110, 3) := by decide +kernel
theorem dX5_addToken_40 : decode cX5_addToken 40 = .ok (.iload_n 3, 1) := by decide +kernel
theorem dX5_addToken_41 : decode cX5_addToken 41 = .ok (.iastore, 1) := by decide +kernel
theorem dX5_addToken_42 : decode cX5_addToken 42 = .ok (.aload_n 0, 1) := by decide +kernel
theorem dX5_addToken_43 : decode cX5_addToken 43 = .ok (.dup, 1) := by decide +kernel
theorem dX5_addToken_44 : decode cX5_addToken 44 = .ok (.getfield 110, 3) := by decide +kernel
theorem dX5_addToken_47 : decode cX5_addToken 47 = .ok (.iconst 1, 1) := by decide +kernel
theorem dX5_addToken_48 : decode cX5_addToken 48 = .ok (.iadd, 1) := by decide +kernel
theorem dX5_addToken_49 : decode cX5_addToken 49 = .ok (.putfield 110, 3) := by decide +kernel
theorem dX5_addToken_52 : decode cX5_addToken 52 = .ok (.return_, 1) := by decide +kernel
theorem dX5_signKind_0 : decode cX5_signKind 0 = .ok (.ldc 173, 2) := by decide +kernel
theorem dX5_signKind_2 : decode cX5_signKind 2 = .ok (.iload_n 0, 1) := by decide +kernel
theorem dX5_signKind_3 : decode cX5_signKind 3 = .ok (.i2c, 1) := by decide +kernel
theorem dX5_signKind_4 : decode cX5_signKind 4 = .ok (.invokevirtual 175, 3) := by decide +kernel
theorem dX5_signKind_7 : decode cX5_signKind 7 = .ok (.istore_n 1, 1) := by decide +kernel
theorem dX5_signKind_8 : decode cX5_signKind 8 = .ok (.iload_n 1, 1) := by decide +kernel
theorem dX5_signKind_9 : decode cX5_signKind 9 = .ok (.ifCond .ge 7, 3) := by decide +kernel
theorem dX5_signKind_12 : decode cX5_signKind 12 = .ok (.iconst 1, 1) := by decide +kernel
theorem dX5_signKind_13 : decode cX5_signKind 13 = .ok (.goto 6, 3) := by decide +kernel
theorem dX5_signKind_16 : decode cX5_signKind 16 = .ok (.iconst 3, 1) := by decide +kernel
theorem dX5_signKind_17 : decode cX5_signKind 17 = .ok (.iload_n 1, 1) := by decide +kernel
theorem dX5_signKind_18 : decode cX5_signKind 18 = .ok (.iadd, 1) := by decide +kernel
theorem dX5_signKind_19 : decode cX5_signKind 19 = .ok (.ireturn, 1) := by decide +kernel
theorem dX5_wordKind_0 : decode cX5_wordKind 0 = .ok (.bipush 13, 2) := by decide +kernel
theorem dX5_wordKind_2 : decode cX5_wordKind 2 = .ok (.istore_n 3, 1) := by decide +kernel
theorem dX5_wordKind_3 : decode cX5_wordKind 3 = .ok (.iconst 0, 1) := by decide +kernel
theorem dX5_wordKind_4 : decode cX5_wordKind 4 = .ok (.istore 4, 2) := by decide +kernel
theorem dX5_wordKind_6 : decode cX5_wordKind 6 = .ok (.iconst 1, 1) := by decide +kernel
theorem dX5_wordKind_7 : decode cX5_wordKind 7 = .ok (.istore 5, 2) := by decide +kernel
theorem dX5_wordKind_9 : decode cX5_wordKind 9 = .ok (.iconst 0, 1) := by decide +kernel
theorem dX5_wordKind_10 : decode cX5_wordKind 10 = .ok (.istore 6, 2) := by decide +kernel
theorem dX5_wordKind_12 : decode cX5_wordKind 12 = .ok (.iload 6, 2) := by decide +kernel
theorem dX5_wordKind_14 : decode cX5_wordKind 14 = .ok (.ldc 180, 2) := by decide +kernel
theorem dX5_wordKind_16 : decode cX5_wordKind 16 = .ok (.invokevirtual 182, 3) := by decide +kernel
theorem dX5_wordKind_19 : decode cX5_wordKind 19 = .ok (.if_icmp .ge 92, 3) := by decide +kernel
theorem dX5_wordKind_22 : decode cX5_wordKind 22 = .ok (.ldc 180, 2) := by decide +kernel
theorem dX5_wordKind_24 : decode cX5_wordKind 24 = .ok (.iload 6, 2) := by decide +kernel
theorem dX5_wordKind_26 : decode cX5_wordKind 26 = .ok (.invokevirtual 186, 3) := by decide +kernel
theorem dX5_wordKind_29 : decode cX5_wordKind 29 = .ok (.istore 7, 2) := by decide +kernel
theorem dX5_wordKind_31 : decode cX5_wordKind 31 = .ok (.iload 7, 2) := by decide +kernel
theorem dX5_wordKind_33 : decode cX5_wordKind 33 = .ok (.bipush 32, 2) := by decide +kernel
theorem dX5_wordKind_35 : decode cX5_wordKind 35 = .ok (.if_icmp .ne 30, 3) := by decide +kernel
theorem dX5_wordKind_38 : decode cX5_wordKind 38 = .ok (.iload 5, 2) := by decide +kernel
theorem dX5_wordKind_40 : decode cX5_wordKind 40 = .ok (.ifCond .eq 13, 3) := by decide +kernel
theorem dX5_wordKind_43 : decode cX5_wordKind 43 = .ok (.iload 4, 2) := by decide +kernel
theorem dX5_wordKind_45 : decode cX5_wordKind 45 = .ok (.iload_n 2, 1) := by decide +kernel
theorem dX5_wordKind_46 : decode cX5_wordKind 46 = .ok (.iload_n 1, 1) := by decide +kernel
theorem dX5_wordKind_47 : decode cX5_wordKind 47 = .ok (.isub, 1) := by decide +kernel
theorem dX5_wordKind_48 : decode cX5_wordKind 48 = .ok (.if_icmp .ne 5, 3) := by decide +kernel
theorem dX5_wordKind_51 : decode cX5_wordKind 51 = .ok (.iload_n 3, 1) := by decide +kernel
theorem dX5_wordKind_52 : decode cX5_wordKind 52 = .ok (.ireturn, 1) := by decide +kernel
theorem dX5_wordKind_53 : decode cX5_wordKind 53 = .ok (.iinc 3 1, 3) := by decide +kernel
theorem dX5_wordKind_56 : decode cX5_wordKind 56 = .ok (.iconst 0, 1) := by decide +kernel
theorem dX5_wordKind_57 : decode cX5_wordKind 57 = .ok (.istore 4, 2) := by decide +kernel
theorem dX5_wordKind_59 : decode cX5_wordKind 59 = .ok (.iconst 1, 1) := by decide +kernel
theorem dX5_wordKind_60 : decode cX5_wordKind 60 = .ok (.istore 5, 2) := by decide +kernel
theorem dX5_wordKind_62 : decode cX5_wordKind 62 = .ok (.goto 43, 3) := by decide +kernel
theorem dX5_wordKind_65 : decode cX5_wordKind 65 = .ok (.iload 5, 2) := by decide +kernel
theorem dX5_wordKind_67 : decode cX5_wordKind 67 = .ok (.ifCond .eq 32, 3) := by decide +kernel
theorem dX5_wordKind_70 : decode cX5_wordKind 70 = .ok (.iload_n 1, 1) := by decide +kernel
theorem dX5_wordKind_71 : decode cX5_wordKind 71 = .ok (.iload 4, 2) := by decide +kernel
theorem dX5_wordKind_73 : decode cX5_wordKind 73 = .ok (.iadd, 1) := by decide +kernel
theorem dX5_wordKind_74 : decode cX5_wordKind 74 = .ok (.iload_n 2, 1) := by decide +kernel
theorem dX5_wordKind_75 : decode cX5_wordKind 75 = .ok (.if_icmp .ge 24, 3) := by decide +kernel
theorem dX5_wordKind_78 : decode cX5_wordKind 78 = .ok (.aload_n 0, 1) := by decide +kernel
theorem dX5_wordKind_79 : decode cX5_wordKind 79 = .ok (.getfield 32, 3) := by decide +kernel
theorem dX5_wordKind_82 : decode cX5_wordKind 82 = .ok (.iload_n 1, 1) := by decide +kernel
theorem dX5_wordKind_83 : decode cX5_wordKind 83 = .ok (.iload 4, 2) := by decide +kernel
theorem dX5_wordKind_85 : decode cX5_wordKind 85 = .ok (.iadd, 1) := by decide +kernel
theorem dX5_wordKind_86 : decode cX5_wordKind 86 = .ok (.iconst 0, 1) := by decide +kernel
theorem dX5_wordKind_87 : decode cX5_wordKind 87 = .ok (.invokevirtual 153, 3) := by decide +kernel
theorem dX5_wordKind_90 : decode cX5_wordKind 90 = .ok (.iload 7, 2) := by decide +kernel
theorem dX5_wordKind_92 : decode cX5_wordKind 92 = .ok (.if_icmp .ne 7, 3) := by decide +kernel
theorem dX5_wordKind_95 : decode cX5_wordKind 95 = .ok (.iconst 1, 1) := by decide +kernel
theorem dX5_wordKind_96 : decode cX5_wordKind 96 = .ok (.goto 4, 3) := by decide +kernel
theorem dX5_wordKind_99 : decode cX5_wordKind 99 = .ok (.iconst 0, 1) := by decide +kernel
theorem dX5_wordKind_100 : decode cX5_wordKind 100 = .ok (.istore 5, 2) := by decide +kernel
theorem dX5_wordKind_102 : decode cX5_wordKind 102 = .ok (.iinc 4 1, 3) := by decide +kernel
theorem dX5_wordKind_105 : decode cX5_wordKind 105 = .ok (.iinc 6 1, 3) := by decide +kernel
theorem dX5_wordKind_108 : decode cX5_wordKind 108 = .ok (.goto (-96), 3) := by decide +kernel
theorem dX5_wordKind_111 : decode cX5_wordKind 111 = .ok (.iconst 1, 1) := by decide +kernel
theorem dX5_wordKind_112 : decode cX5_wordKind 112 = .ok (.ireturn, 1) := by decide +kernel
theorem dX6_init_0 : decode cX6_init 0 = .ok (.aload_n 0, 1) := by decide +kernel
theorem dX6_init_1 : decode cX6_init 1 = .ok (.invokespecial 3, 3) := by decide +kernel
theorem dX6_init_4 : decode cX6_init 4 = .ok (.aload_n 0, 1) := by decide +kernel
theorem dX6_init_5 : decode cX6_init 5 = .ok (.iconst 0, 1) := by decide +kernel
theorem dX6_init_6 : decode cX6_init 6 = .ok (.iload_n 1, 1) := by decide +kernel
theorem dX6_init_7 : decode cX6_init 7 = .ok (.invokestatic 9, 3) := by decide +kernel
theorem dX6_init_10 : decode cX6_init 10 = .ok (.putfield 15, 3) := by decide +kernel
theorem dX6_init_13 : decode cX6_init 13 = .ok (.aload_n 0, 1) := by decide +kernel
theorem dX6_init_14 : decode cX6_init 14 = .ok (.iconst 1, 1) := by decide +kernel
theorem dX6_init_15 : decode cX6_init 15 = .ok (.iload_n 2, 1) := by decide +kernel
theorem dX6_init_16 : decode cX6_init 16 = .ok (.invokestatic 9, 3) := by decide +kernel
theorem dX6_init_19 : decode cX6_init 19 = .ok (.putfield 21, 3) := by decide +kernel
theorem dX6_init_22 : decode cX6_init 22 = .ok (.aload_n 0, 1) := by decide +kernel
theorem dX6_init_23 : decode cX6_init 23 = .ok (.aload_n 0, 1) := by decide +kernel
theorem dX6_init_24 : decode cX6_init 24 = .ok (.getfield 15, 3) := by decide +kernel
theorem dX6_init_27 : decode cX6_init 27 = .ok (.aload_n 0, 1) := by decide +kernel
theorem dX6_init_28 : decode cX6_init 28 = .ok (.getfield 21, 3) := by decide +kernel
theorem dX6_init_31 : decode cX6_init 31 = .ok (.imul, 1) := by decide +kernel
theorem dX6_init_32 : decode cX6_init 32 = .ok (.newarray .int, 2) := by decide +kernel
theorem dX6_init_34 : decode cX6_init 34 = .ok (.putfield 24, 3) := by decide +kernel
theorem dX6_init_37 : decode cX6_init 37 = .ok (.return_, 1) := by decide +kernel
theorem dX6_isFull_0 : decode cX6_isFull 0 = .ok (.aload_n 0, 1) := by decide +kernel
theorem dX6_isFull_1 : decode cX6_isFull 1 = .ok (.getfield 28, 3) := by decide +kernel
theorem dX6_isFull_4 : decode cX6_isFull 4 = .ok (.aload_n 0, 1) := by decide +kernel
theorem dX6_isFull_5 : decode cX6_isFull 5 = .ok (.getfield 15, 3) := by decide +kernel
theorem dX6_isFull_8 : decode cX6_isFull 8 = .ok (.if_icmp .lt 7, 3) := by decide +kernel
theorem dX6_isFull_11 : decode cX6_isFull 11 = .ok (.iconst 1, 1) := by decide +kernel
theorem dX6_isFull_12 : decode cX6_isFull 12 = .ok (.goto 4, 3) := by decide +kernel
theorem dX6_isFull_15 : decode cX6_isFull 15 = .ok (.iconst 0, 1) := by decide +kernel
theorem dX6_isFull_16 : decode cX6_isFull 16 = .ok (.ireturn, 1) := by decide +kernel
theorem dX6_has_0 : decode cX6_has 0 = .ok (.iload_n 1, 1) := by decide +kernel
theorem dX6_has_1 : decode cX6_has 1 = .ok (.ifCond .lt 15, 3) := by decide +kernel
theorem dX6_has_4 : decode cX6_has 4 = .ok (.iload_n 1, 1) := by decide +kernel
theorem dX6_has_5 : decode cX6_has 5 = .ok (.aload_n 0, 1) := by decide +kernel
theorem dX6_has_6 : decode cX6_has 6 = .ok (.getfield 28, 3) := by decide +kernel
theorem dX6_has_9 : decode cX6_has 9 = .ok (.if_icmp .ge 7, 3) := by decide +kernel
theorem dX6_has_12 : decode cX6_has 12 = .ok (.iconst 1, 1) := by decide +kernel
theorem dX6_has_13 : decode cX6_has 13 = .ok (.goto 4, 3) := by decide +kernel
theorem dX6_has_16 : decode cX6_has 16 = .ok (.iconst 0, 1) := by decide +kernel
theorem dX6_has_17 : decode cX6_has 17 = .ok (.ireturn, 1) := by decide +kernel
theorem dX6_get_0 : decode cX6_get 0 = .ok (.iload_n 1, 1) := by decide +kernel
theorem dX6_get_1 : decode cX6_get 1 = .ok (.ifCond .lt 23, 3) := by decide +kernel
theorem dX6_get_4 : decode cX6_get 4 = .ok (.iload_n 1, 1) := by decide +kernel
theorem dX6_get_5 : decode cX6_get 5 = .ok (.aload_n 0, 1) := by decide +kernel
theorem dX6_get_6 : decode cX6_get 6 = .ok (.getfield 28, 3) := by decide +kernel
theorem dX6_get_9 : decode cX6_get 9 = .ok (.if_icmp .ge 15, 3) := by decide +kernel
theorem dX6_get_12 : decode cX6_get 12 = .ok (.iload_n 2, 1) := by decide +kernel
theorem dX6_get_13 : decode cX6_get 13 = .ok (.ifCond .lt 11, 3) := by decide +kernel
theorem dX6_get_16 : decode cX6_get 16 = .ok (.iload_n 2, 1) := by decide +kernel
theorem dX6_get_17 : decode cX6_get 17 = .ok (.aload_n 0, 1) := by decide +kernel
theorem dX6_get_18 : decode cX6_get 18 = .ok (.getfield 21, 3) := by decide +kernel
theorem dX6_get_21 : decode cX6_get 21 = .ok (.if_icmp .lt 5, 3) := by decide +kernel
theorem dX6_get_24 : decode cX6_get 24 = .ok (.iconst 0, 1) := by decide +kernel
theorem dX6_get_25 : decode cX6_get 25 = .ok (.ireturn, 1) := by decide +kernel
theorem dX6_get_26 : decode cX6_get 26 = .ok (.iload_n 1, 1) := by decide +kernel
theorem dX6_get_27 : decode cX6_get 27 = .ok (.aload_n 0, 1) := by decide +kernel
theorem dX6_get_28 : decode cX6_get 28 = .ok (.getfield 21, 3) := by decide +kernel
theorem dX6_get_31 : decode cX6_get 31 = .ok (.imul, 1) := by decide +kernel
theorem dX6_get_32 : decode cX6_get 32 = .ok (.iload_n 2, 1) := by decide +kernel
theorem dX6_get_33 : decode cX6_get 33 = .ok (.iadd, 1) := by decide +kernel
theorem dX6_get_34 : decode cX6_get 34 = .ok (.istore_n 3, 1) := by decide +kernel
theorem dX6_get_35 : decode cX6_get 35 = .ok (.iload_n 3, 1) := by decide +kernel
theorem dX6_get_36 : decode cX6_get 36 = .ok (.aload_n 0, 1) := by decide +kernel
theorem dX6_get_37 : decode cX6_get 37 = .ok (.getfield 24, 3) := by decide +kernel
theorem dX6_get_40 : decode cX6_get 40 = .ok (.arraylength, 1) := by decide +kernel
theorem dX6_get_41 : decode cX6_get 41 = .ok (.if_icmp .ge 12, 3) := by decide +kernel
theorem dX6_get_44 : decode cX6_get 44 = .ok (.aload_n 0, 1) := by decide +kernel
theorem dX6_get_45 : decode cX6_get 45 = .ok (.getfield 24, 3) := by decide +kernel
theorem dX6_get_48 : decode cX6_get 48 = .ok (.iload_n 3, 1) := by decide +kernel
theorem dX6_get_49 : decode cX6_get 49 = .ok (.iaload, 1) := by decide +kernel
theorem dX6_get_50 : decode cX6_get 50 = .ok (.goto 4, 3) := by decide +kernel
theorem dX6_get_53 : decode cX6_get 53 = .ok (.iconst 0, 1) := by decide +kernel
theorem dX6_get_54 : decode cX6_get 54 = .ok (.ireturn, 1) := by decide +kernel
theorem dX6_put_0 : decode cX6_put 0 = .ok (.iload_n 1, 1) := by decide +kernel
theorem dX6_put_1 : decode cX6_put 1 = .ok (.ifCond .lt 23, 3) := by decide +kernel
theorem dX6_put_4 : decode cX6_put 4 = .ok (.iload_n 1, 1) := by decide +kernel
theorem dX6_put_5 : decode cX6_put 5 = .ok (.aload_n 0, 1) := by decide +kernel
theorem dX6_put_6 : decode cX6_put 6 = .ok (.getfield 28, 3) := by decide +kernel
theorem dX6_put_9 : decode cX6_put 9 = .ok (.if_icmp .ge 15, 3) := by decide +kernel
theorem dX6_put_12 : decode cX6_put 12 = .ok (.iload_n 2, 1) := by decide +kernel
theorem dX6_put_13 : decode cX6_put 13 = .ok (.ifCond .lt 11, 3) := by decide +kernel
theorem dX6_put_16 : decode cX6_put 16 = .ok (.iload_n 2, 1) := by decide +kernel
theorem dX6_put_17 : decode cX6_put 17 = .ok (.aload_n 0, 1) := by decide +kernel
theorem dX6_put_18 : decode cX6_put 18 = .ok (.getfield 21, 3) := by decide +kernel
theorem dX6_put_21 : decode cX6_put 21 = .ok (.if_icmp .lt 4, 3) := by decide +kernel
theorem dX6_put_24 : decode cX6_put 24 = .ok (.return_, 1) := by decide +kernel
theorem dX6_put_25 : decode cX6_put 25 = .ok (.iload_n 1, 1) := by decide +kernel
theorem dX6_put_26 : decode cX6_put 26 = .ok (.aload_n 0, 1) := by decide +kernel
theorem dX6_put_27 : decode cX6_put 27 = .ok (.getfield 21, 3) := by decide +kernel
theorem dX6_put_30 : decode cX6_put 30 = .ok (.imul, 1) := by decide +kernel
theorem dX6_put_31 : decode cX6_put 31 = .ok (.iload_n 2, 1) := by decide +kernel
theorem dX6_put_32 : decode cX6_put 32 = .ok (.iadd, 1) := by decide +kernel
theorem dX6_put_33 : decode cX6_put 33 = .ok (.istore 4, 2) := by decide +kernel
theorem dX6_put_35 : decode cX6_put 35 = .ok (.iload 4, 2) := by decide +kernel
theorem dX6_put_37 : decode cX6_put 37 = .ok (.aload_n 0, 1) := by decide +kernel
theorem dX6_put_38 : decode cX6_put 38 = .ok (.getfield 24, 3) := by decide +kernel
theorem dX6_put_41 : decode cX6_put 41 = .ok (.arraylength, 1) := by decide +kernel
theorem dX6_put_42 : decode cX6_put 42 = .ok (.if_icmp .ge 11, 3) := by decide +kernel
theorem dX6_put_45 : decode cX6_put 45 = .ok (.aload_n 0, 1) := by decide +kernel
theorem dX6_put_46 : decode cX6_put 46 = .ok (.getfield 24, 3) := by decide +kernel
theorem dX6_put_49 : decode cX6_put 49 = .ok (.iload 4, 2) := by decide +kernel
theorem dX6_put_51 : decode cX6_put 51 = .ok (.iload_n 3, 1) := by decide +kernel
theorem dX6_put_52 : decode cX6_put 52 = .ok (.iastore, 1) := by decide +kernel
theorem dX6_put_53 : decode cX6_put 53 = .ok (.return_, 1) := by decide +kernel
theorem dX6_change_0 : decode cX6_change 0 = .ok (.aload_n 0, 1) := by decide +kernel
theorem dX6_change_1 : decode cX6_change 1 = .ok (.iload_n 1, 1) := by decide +kernel
theorem dX6_change_2 : decode cX6_change 2 = .ok (.iload_n 2, 1) := by decide +kernel
theorem dX6_change_3 : decode cX6_change 3 = .ok (.aload_n 0, 1) := by decide +kernel
theorem dX6_change_4 : decode cX6_change 4 = .ok (.iload_n 1, 1) := by decide +kernel
theorem dX6_change_5 : decode cX6_change 5 = .ok (.iload_n 2, 1) := by decide +kernel
theorem dX6_change_6 : decode cX6_change 6 = .ok (.invokevirtual 31, 3) := by decide +kernel
theorem dX6_change_9 : decode cX6_change 9 = .ok (.iload_n 3, 1) := by decide +kernel
theorem dX6_change_10 : decode cX6_change 10 = .ok (.iadd, 1) := by decide +kernel
theorem dX6_change_11 : decode cX6_change 11 = .ok (.invokevirtual 34, 3) := by decide +kernel
theorem dX6_change_14 : decode cX6_change 14 = .ok (.return_, 1) := by decide +kernel
theorem dX6_add_0 : decode cX6_add 0 = .ok (.aload_n 0, 1) := by decide +kernel
theorem dX6_add_1 : decode cX6_add 1 = .ok (.getfield 28, 3) := by decide +kernel
theorem dX6_add_4 : decode cX6_add 4 = .ok (.aload_n 0, 1) := by decide +kernel
theorem dX6_add_5 : decode cX6_add 5 = .ok (.getfield 21, 3) := by decide +kernel
theorem dX6_add_8 : decode cX6_add 8 = .ok (.imul, 1) := by decide +kernel
theorem dX6_add_9 : decode cX6_add 9 = .ok (.istore 6, 2) := by decide +kernel
theorem dX6_add_11 : decode cX6_add 11 = .ok (.aload_n 0, 1) := by decide +kernel
theorem dX6_add_12 : decode cX6_add 12 = .ok (.getfield 28, 3) := by decide +kernel
theorem dX6_add_15 : decode cX6_add 15 = .ok (.aload_n 0, 1) := by decide +kernel
theorem dX6_add_16 : decode cX6_add 16 = .ok (.getfield 15, 3) := by decide +kernel
theorem dX6_add_19 : decode cX6_add 19 = .ok (.if_icmp .ge 18, 3) := by decide +kernel
theorem dX6_add_22 : decode cX6_add 22 = .ok (.iload 6, 2) := by decide +kernel
theorem dX6_add_24 : decode cX6_add 24 = .ok (.aload_n 0, 1) := by decide +kernel
theorem dX6_add_25 : decode cX6_add 25 = .ok (.getfield 21, 3) := by decide +kernel
theorem dX6_add_28 : decode cX6_add 28 = .ok (.iadd, 1) := by decide +kernel
theorem dX6_add_29 : decode cX6_add 29 = .ok (.aload_n 0, 1) := by decide +kernel
theorem dX6_add_30 : decode cX6_add 30 = .ok (.getfield 24, 3) := by decide +kernel
theorem dX6_add_33 : decode cX6_add 33 = .ok (.arraylength, 1) := by decide +kernel
theorem dX6_add_34 : decode cX6_add 34 = .ok (.if_icmp .le 5, 3) := by decide +kernel
theorem dX6_add_37 : decode cX6_add 37 = .ok (.iconst (-1), 1) := by decide +kernel
theorem dX6_add_38 : decode cX6_add 38 = .ok (.ireturn, 1) := by decide +kernel
theorem dX6_add_39 : decode cX6_add 39 = .ok (.aload_n 0, 1) := by decide +kernel
theorem dX6_add_40 : decode cX6_add 40 = .ok (.getfield 24, 3) := by decide +kernel
theorem dX6_add_43 : decode cX6_add 43 = .ok (.iload 6, 2) := by decide +kernel
theorem dX6_add_45 : decode cX6_add 45 = .ok (.iload_n 1, 1) := by decide +kernel
theorem dX6_add_46 : decode cX6_add 46 = .ok (.iastore, 1) := by decide +kernel
theorem dX6_add_47 : decode cX6_add 47 = .ok (.aload_n 0, 1) := by decide +kernel
theorem dX6_add_48 : decode cX6_add 48 = .ok (.getfield 21, 3) := by decide +kernel
theorem dX6_add_51 : decode cX6_add 51 = .ok (.iconst 1, 1) := by decide +kernel
theorem dX6_add_52 : decode cX6_add 52 = .ok (.if_icmp .le 13, 3) := by decide +kernel
theorem dX6_add_55 : decode cX6_add 55 = .ok (.aload_n 0, 1) := by decide +kernel
theorem dX6_add_56 : decode cX6_add 56 = .ok (.getfield 24, 3) := by decide +kernel
theorem dX6_add_59 : decode cX6_add 59 = .ok (.iload 6, 2) := by decide +kernel
theorem dX6_add_61 : decode cX6_add 61 = .ok (.iconst 1, 1) := by decide +kernel
theorem dX6_add_62 : decode cX6_add 62 = .ok (.iadd, 1) := by decide +kernel
theorem dX6_add_63 : decode cX6_add 63 = .ok (.iload_n 2, 1) := by decide +kernel
theorem dX6_add_64 : decode cX6_add 64 = .ok (.iastore, 1) := by decide +kernel
theorem dX6_add_65 : decode cX6_add 65 = .ok (.aload_n 0, 1) := by decide +kernel
theorem dX6_add_66 : decode cX6_add 66 = .ok (.getfield 21, 3) := by decide +kernel
theorem dX6_add_69 : decode cX6_add 69 = .ok (.iconst 2, 1) := by decide +kernel
theorem dX6_add_70 : decode cX6_add 70 = .ok (.if_icmp .le 13, 3) := by decide +kernel
theorem dX6_add_73 : decode cX6_add 73 = .ok (.aload_n 0, 1) := by decide +kernel
theorem dX6_add_74 : decode cX6_add 74 = .ok (.getfield 24, 3) := by decide +kernel
theorem dX6_add_77 : decode cX6_add 77 = .ok (.iload 6, 2) := by decide +kernel
theorem dX6_add_79 : decode cX6_add 79 = .ok (.iconst 2, 1) := by decide +kernel
theorem dX6_add_80 : decode cX6_add 80 = .ok (.iadd, 1) := by decide +kernel
theorem dX6_add_81 : decode cX6_add 81 = .ok (.iload_n 3, 1) := by decide +kernel
theorem dX6_add_82 : decode cX6_add 82 = .ok (.iastore, 1) := by decide +kernel
theorem dX6_add_83 : decode cX6_add 83 = .ok (.aload_n 0, 1) := by decide +kernel
theorem dX6_add_84 : decode cX6_add 84 = .ok (.getfield 21, 3) := by decide +kernel
theorem dX6_add_87 : decode cX6_add 87 = .ok (.iconst 3, 1) := by decide +kernel
theorem dX6_add_88 : decode cX6_add 88 = .ok (.if_icmp .le 14, 3) := by decide +kernel
theorem dX6_add_91 : decode cX6_add 91 = .ok (.aload_n 0, 1) := by decide +kernel
theorem dX6_add_92 : decode cX6_add 92 = .ok (.getfield 24, 3) := by decide +kernel
theorem dX6_add_95 : decode cX6_add 95 = .ok (.iload 6, 2) := by decide +kernel
theorem dX6_add_97 : decode cX6_add 97 = .ok (.iconst 3, 1) := by decide +kernel
theorem dX6_add_98 : decode cX6_add 98 = .ok (.iadd, 1) := by decide +kernel
theorem dX6_add_99 : decode cX6_add 99 = .ok (.iload 4, 2) := by decide +kernel
theorem dX6_add_101 : decode cX6_add 101 = .ok (.iastore, 1) := by decide +kernel
theorem dX6_add_102 : decode cX6_add 102 = .ok (.aload_n 0, 1) := by decide +kernel
theorem dX6_add_103 : decode cX6_add 103 = .ok (.getfield 21, 3) := by decide +kernel
theorem dX6_add_106 : decode cX6_add 106 = .ok (.iconst 4, 1) := by decide +kernel
theorem dX6_add_107 : decode cX6_add 107 = .ok (.if_icmp .le 14, 3) := by decide +kernel
theorem dX6_add_110 : decode cX6_add 110 = .ok (.aload_n 0, 1) := by decide +kernel
theorem dX6_add_111 : decode cX6_add 111 = .ok (.getfield 24, 3) := by decide +kernel
theorem dX6_add_114 : decode cX6_add 114 = .ok (.iload 6, 2) := by decide +kernel
theorem dX6_add_116 : decode cX6_add 116 = .ok (.iconst 4, 1) := by decide +kernel
theorem dX6_add_117 : decode cX6_add 117 = .ok (.iadd, 1) := by decide +kernel
theorem dX6_add_118 : decode cX6_add 118 = .ok (.iload 5, 2) := by decide +kernel
theorem dX6_add_120 : decode cX6_add 120 = .ok (.iastore, 1) := by decide +kernel
theorem dX6_add_121 : decode cX6_add 121 = .ok (.aload_n 0, 1) := by decide +kernel
theorem dX6_add_122 : decode cX6_add 122 = .ok (.dup, 1) := by decide +kernel
theorem dX6_add_123 : decode cX6_add 123 = .ok (.getfield 28, 3) := by decide +kernel
theorem dX6_add_126 : decode cX6_add 126 = .ok (.iconst 1, 1) := by decide +kernel
theorem dX6_add_127 : decode cX6_add 127 = .ok (.iadd, 1) := by decide +kernel
theorem dX6_add_128 : decode cX6_add 128 = .ok (.putfield 28, 3) := by decide +kernel
theorem dX6_add_131 : decode cX6_add 131 = .ok (.aload_n 0, 1) := by decide +kernel
theorem dX6_add_132 : decode cX6_add 132 = .ok (.getfield 28, 3) := by decide +kernel
theorem dX6_add_135 : decode cX6_add 135 = .ok (.iconst 1, 1) := by decide +kernel
theorem dX6_add_136 : decode cX6_add 136 = .ok (.isub, 1) := by decide +kernel
theorem dX6_add_137 : decode cX6_add 137 = .ok (.ireturn, 1) := by decide +kernel
theorem dX6_addCounted_0 : decode cX6_addCounted 0 = .ok (.aload_n 0, 1) := by decide +kernel
theorem dX6_addCounted_1 : decode cX6_addCounted 1 = .ok (.iload_n 1, 1) := by decide +kernel
theorem dX6_addCounted_2 : decode cX6_addCounted 2 = .ok (.iload_n 2, 1) := by decide +kernel
theorem dX6_addCounted_3 : decode cX6_addCounted 3 = .ok (.iconst 0, 1) := by decide +kernel
theorem dX6_addCounted_4 : decode cX6_addCounted 4 = .ok (.iconst 0, 1) := by decide +kernel
theorem dX6_addCounted_5 : decode cX6_addCounted 5 = .ok (.iconst 0, 1) := by decide +kernel
theorem dX6_addCounted_6 : decode cX6_addCounted 6 = .ok (.invokevirtual 38, 3) := by decide +kernel
theorem dX6_addCounted_9 : decode cX6_addCounted 9 = .ok (.iconst (-1), 1) := by decide +kernel
theorem dX6_addCounted_10 : decode cX6_addCounted 10 = .ok (.if_icmp .ne 7, 3) := by decide +kernel
theorem dX6_addCounted_13 : decode cX6_addCounted 13 = .ok (.iconst (-1), 1) := by decide +kernel
theorem dX6_addCounted_14 : decode cX6_addCounted 14 = .ok (.goto 7, 3) := by decide +kernel
theorem dX6_addCounted_17 : decode cX6_addCounted 17 = .ok (.aload_n 0, 1) := by decide +kernel
theorem dX6_addCounted_18 : decode cX6_addCounted 18 = .ok (.getfield 28, 3) := by decide +kernel
theorem dX6_addCounted_21 : decode cX6_addCounted 21 = .ok (.ireturn, 1) := by decide +kernel
theorem dX6_cut_0 : decode cX6_cut 0 = .ok (.iload_n 1, 1) := by decide +kernel
theorem dX6_cut_1 : decode cX6_cut 1 = .ok (.ifCond .lt 16, 3) := by decide +kernel
theorem dX6_cut_4 : decode cX6_cut 4 = .ok (.iload_n 1, 1) := by decide +kernel
theorem dX6_cut_5 : decode cX6_cut 5 = .ok (.aload_n 0, 1) := by decide +kernel
theorem dX6_cut_6 : decode cX6_cut 6 = .ok (.getfield 28, 3) := by decide +kernel
theorem dX6_cut_9 : decode cX6_cut 9 = .ok (.if_icmp .ge 8, 3) := by decide +kernel
theorem dX6_cut_12 : decode cX6_cut 12 = .ok (.aload_n 0, 1) := by decide +kernel
theorem dX6_cut_13 : decode cX6_cut 13 = .ok (.iload_n 1, 1) := by decide +kernel
theorem dX6_cut_14 : decode cX6_cut 14 = .ok (.putfield 28, 3) := by decide +kernel
theorem dX6_cut_17 : decode cX6_cut 17 = .ok (.aload_n 0, 1) := by decide +kernel
theorem dX6_cut_18 : decode cX6_cut 18 = .ok (.getfield 28, 3) := by decide +kernel
theorem dX6_cut_21 : decode cX6_cut 21 = .ok (.ireturn, 1) := by decide +kernel
theorem dX6_find_0 : decode cX6_find 0 = .ok (.iconst 0, 1) := by decide +kernel
theorem dX6_find_1 : decode cX6_find 1 = .ok (.istore_n 3, 1) := by decide +kernel
theorem dX6_find_2 : decode cX6_find 2 = .ok (.iload_n 3, 1) := by decide +kernel
theorem dX6_find_3 : decode cX6_find 3 = .ok (.aload_n 0, 1) := by decide +kernel
theorem dX6_find_4 : decode cX6_find 4 = .ok (.getfield 28, 3) := by decide +kernel
theorem dX6_find_7 : decode cX6_find 7 = .ok (.if_icmp .ge 21, 3) := by decide +kernel
theorem dX6_find_10 : decode cX6_find 10 = .ok (.aload_n 0, 1) := by decide +kernel
theorem dX6_find_11 : decode cX6_find 11 = .ok (.iload_n 3, 1) := by decide +kernel
theorem dX6_find_12 : decode cX6_find 12 = .ok (.iload_n 1, 1) := by decide +kernel
theorem dX6_find_13 : decode cX6_find 13 = .ok (.invokevirtual 31, 3) := by decide +kernel
theorem dX6_find_16 : decode cX6_find 16 = .ok (.iload_n 2, 1) := by decide +kernel
theorem dX6_find_17 : decode cX6_find 17 = .ok (.if_icmp .ne 5, 3) := by decide +kernel
theorem dX6_find_20 : decode cX6_find 20 = .ok (.iload_n 3, 1) := by decide +kernel
theorem dX6_find_21 : decode cX6_find 21 = .ok (.ireturn, 1) := by decide +kernel
theorem dX6_find_22 : decode cX6_find 22 = .ok (.iinc 3 1, 3) := by decide +kernel
theorem dX6_find_25 : decode cX6_find 25 = .ok (.goto (-23), 3) := by decide +kernel
theorem dX6_find_28 : decode cX6_find 28 = .ok (.iconst (-1), 1) := by decide +kernel
theorem dX6_find_29 : decode cX6_find 29 = .ok (.ireturn, 1) := by decide +kernel
theorem dX6_countOf_0 : decode cX6_countOf 0 = .ok (.iconst 0, 1) := by decide +kernel
theorem dX6_countOf_1 : decode cX6_countOf 1 = .ok (.istore 4, 2) := by decide +kernel
theorem dX6_countOf_3 : decode cX6_countOf 3 = .ok (.iconst 0, 1) := by decide +kernel
theorem dX6_countOf_4 : decode cX6_countOf 4 = .ok (.iload_n 3, 1) := by decide +kernel
theorem dX6_countOf_5 : decode cX6_countOf 5 = .ok (.invokestatic 9, 3) := by decide +kernel
theorem dX6_countOf_8 : decode cX6_countOf 8 = .ok (.istore 5, 2) := by decide +kernel
theorem dX6_countOf_10 : decode cX6_countOf 10 = .ok (.iload 5, 2) := by decide +kernel
theorem dX6_countOf_12 : decode cX6_countOf 12 = .ok (.aload_n 0, 1) := by decide +kernel
theorem dX6_countOf_13 : decode cX6_countOf 13 = .ok (.getfield 28, 3) := by decide +kernel
theorem dX6_countOf_16 : decode cX6_countOf 16 = .ok (.if_icmp .ge 23, 3) := by decide +kernel
theorem dX6_countOf_19 : decode cX6_countOf 19 = .ok (.aload_n 0, 1) := by decide +kernel
theorem dX6_countOf_20 : decode cX6_countOf 20 = .ok (.iload 5, 2) := by decide +kernel
theorem dX6_countOf_22 : decode cX6_countOf 22 = .ok (.iload_n 1, 1) := by decide +kernel
theorem dX6_countOf_23 : decode cX6_countOf 23 = .ok (.invokevirtual 31, 3) := by decide +kernel
theorem dX6_countOf_26 : decode cX6_countOf 26 = .ok (.iload_n 2, 1) := by decide +kernel
theorem dX6_countOf_27 : decode cX6_countOf 27 = .ok (.if_icmp .ne 6, 3) := by decide +kernel
theorem dX6_countOf_30 : decode cX6_countOf 30 = .ok (.iinc 4 1, 3) := by decide +kernel
theorem dX6_countOf_33 : decode cX6_countOf 33 = .ok (.iinc 5 1, 3) := by decide +kernel
theorem dX6_countOf_36 : decode cX6_countOf 36 = .ok (.goto (-26), 3) := by decide +kernel
theorem dX6_countOf_39 : decode cX6_countOf 39 = .ok (.iload 4, 2) := by decide +kernel
theorem dX6_countOf_41 : decode cX6_countOf 41 = .ok (.ireturn, 1) := by decide +kernel
theorem dX6_total_0 : decode cX6_total 0 = .ok (.iconst 0, 1) := by decide +kernel
theorem dX6_total_1 : decode cX6_total 1 = .ok (.istore_n 2, 1) := by decide +kernel
theorem dX6_total_2 : decode cX6_total 2 = .ok (.iconst 0, 1) := by decide +kernel
theorem dX6_total_3 : decode cX6_total 3 = .ok (.istore_n 3, 1) := by decide +kernel
theorem dX6_total_4 : decode cX6_total 4 = .ok (.iload_n 3, 1) := by decide +kernel
theorem dX6_total_5 : decode cX6_total 5 = .ok (.aload_n 0, 1) := by decide +kernel
theorem dX6_total_6 : decode cX6_total 6 = .ok (.getfield 28, 3) := by decide +kernel
theorem dX6_total_9 : decode cX6_total 9 = .ok (.if_icmp .ge 18, 3) := by decide +kernel
theorem dX6_total_12 : decode cX6_total 12 = .ok (.iload_n 2, 1) := by decide +kernel
theorem dX6_total_13 : decode cX6_total 13 = .ok (.aload_n 0, 1) := by decide +kernel
theorem dX6_total_14 : decode cX6_total 14 = .ok (.iload_n 3, 1) := by decide +kernel
theorem dX6_total_15 : decode cX6_total 15 = .ok (.iload_n 1, 1) := by decide +kernel
theorem dX6_total_16 : decode cX6_total 16 = .ok (.invokevirtual 31, 3) := by decide +kernel
theorem dX6_total_19 : decode cX6_total 19 = .ok (.iadd, 1) := by decide +kernel
theorem dX6_total_20 : decode cX6_total 20 = .ok (.istore_n 2, 1) := by decide +kernel
theorem dX6_total_21 : decode cX6_total 21 = .ok (.iinc 3 1, 3) := by decide +kernel
theorem dX6_total_24 : decode cX6_total 24 = .ok (.goto (-20), 3) := by decide +kernel
theorem dX6_total_27 : decode cX6_total 27 = .ok (.iload_n 2, 1) := by decide +kernel
theorem dX6_total_28 : decode cX6_total 28 = .ok (.ireturn, 1) := by decide +kernel
theorem dX6_copyFrom_0 : decode cX6_copyFrom 0 = .ok (.aload_n 1, 1) := by decide +kernel
theorem dX6_copyFrom_1 : decode cX6_copyFrom 1 = .ok (.getfield 21, 3) := by decide +kernel
theorem dX6_copyFrom_4 : decode cX6_copyFrom 4 = .ok (.aload_n 0, 1) := by decide +kernel
theorem dX6_copyFrom_5 : decode cX6_copyFrom 5 = .ok (.getfield 21, 3) := by decide +kernel
theorem dX6_copyFrom_8 : decode cX6_copyFrom 8 = .ok (.if_icmp .ne 44, 3) := by decide +kernel
theorem dX6_copyFrom_11 : decode cX6_copyFrom 11 = .ok (.aload_n 1, 1) := by decide +kernel
theorem dX6_copyFrom_12 : decode cX6_copyFrom 12 = .ok (.getfield 28, 3) := by decide +kernel
theorem dX6_copyFrom_15 : decode cX6_copyFrom 15 = .ok (.aload_n 0, 1) := by decide +kernel
theorem dX6_copyFrom_16 : decode cX6_copyFrom 16 = .ok (.getfield 15, 3) := by decide +kernel
theorem dX6_copyFrom_19 : decode cX6_copyFrom 19 = .ok (.if_icmp .gt 33, 3) := by decide +kernel
theorem dX6_copyFrom_22 : decode cX6_copyFrom 22 = .ok (.aload_n 0, 1) := by decide +kernel
theorem dX6_copyFrom_23 : decode cX6_copyFrom 23 = .ok (.aload_n 1, 1) := by decide +kernel
theorem dX6_copyFrom_24 : decode cX6_copyFrom 24 = .ok (.getfield 28, 3) := by decide +kernel
theorem dX6_copyFrom_27 : decode cX6_copyFrom 27 = .ok (.putfield 28, 3) := by decide +kernel
theorem dX6_copyFrom_30 : decode cX6_copyFrom 30 = .ok (.aload_n 1, 1) := by decide +kernel
theorem dX6_copyFrom_31 : decode cX6_copyFrom 31 = .ok (.getfield 24, 3) := by decide +kernel
theorem dX6_copyFrom_34 : decode cX6_copyFrom 34 = .ok (.iconst 0, 1) := by decide +kernel
theorem dX6_copyFrom_35 : decode cX6_copyFrom 35 = .ok (.aload_n 0, 1) := by decide +kernel
theorem dX6_copyFrom_36 : decode cX6_copyFrom 36 = .ok (.getfield 24, 3) := by decide +kernel
theorem dX6_copyFrom_39 : decode cX6_copyFrom 39 = .ok (.iconst 0, 1) := by decide +kernel
theorem dX6_copyFrom_40 : decode cX6_copyFrom 40 = .ok (.aload_n 0, 1) := by decide +kernel
theorem dX6_copyFrom_41 : decode cX6_copyFrom 41 = .ok (.getfield 28, 3) := by decide +kernel
theorem dX6_copyFrom_44 : decode cX6_copyFrom 44 = .ok (.aload_n 0, 1) := by decide +kernel
theorem dX6_copyFrom_45 : decode cX6_copyFrom 45 = .ok (.getfield 21, 3) := by decide +kernel
theorem dX6_copyFrom_48 : decode cX6_copyFrom 48 = .ok (.imul, 1) := by decide +kernel
theorem dX6_copyFrom_49 : decode cX6_copyFrom 49 = .ok (.invokestatic 42, 3) := by decide +kernel
theorem dX6_copyFrom_52 : decode cX6_copyFrom 52 = .ok (.return_, 1) := by decide +kernel
theorem dX7_init_0 : decode cX7_init 0 = .ok (.aload_n 0, 1) := by decide +kernel
theorem dX7_init_1 : decode cX7_init 1 = .ok (.invokespecial 3, 3) := by decide +kernel
theorem dX7_init_4 : decode cX7_init 4 = .ok (.aload_n 0, 1) := by decide +kernel
theorem dX7_init_5 : decode cX7_init 5 = .ok (.new 9, 3) := by decide +kernel
theorem dX7_init_8 : decode cX7_init 8 = .ok (.dup, 1) := by decide +kernel
theorem dX7_init_9 : decode cX7_init 9 = .ok (.invokespecial 11, 3) := by decide +kernel
theorem dX7_init_12 : decode cX7_init 12 = .ok (.putfield 12, 3) := by decide +kernel
theorem dX7_init_15 : decode cX7_init 15 = .ok (.aload_n 0, 1) := by decide +kernel
theorem dX7_init_16 : decode cX7_init 16 = .ok (.new 18, 3) := by decide +kernel
theorem dX7_init_19 : decode cX7_init 19 = .ok (.dup, 1) := by decide +kernel
theorem dX7_init_20 : decode cX7_init 20 = .ok (.bipush 16, 2) := by decide +kernel
theorem dX7_init_22 : decode cX7_init 22 = .ok (.iconst 5, 1) := by decide +kernel
theorem dX7_init_23 : decode cX7_init 23 = .ok (.invokespecial 20, 3) := by decide +kernel
theorem dX7_init_26 : decode cX7_init 26 = .ok (.putfield 23, 3) := by decide +kernel
theorem dX7_init_29 : decode cX7_init 29 = .ok (.aload_n 0, 1) := by decide +kernel
theorem dX7_init_30 : decode cX7_init 30 = .ok (.new 18, 3) := by decide +kernel
theorem dX7_init_33 : decode cX7_init 33 = .ok (.dup, 1) := by decide +kernel
theorem dX7_init_34 : decode cX7_init 34 = .ok (.bipush 16, 2) := by decide +kernel
theorem dX7_init_36 : decode cX7_init 36 = .ok (.iconst 3, 1) := by decide +kernel
theorem dX7_init_37 : decode cX7_init 37 = .ok (.invokespecial 20, 3) := by decide +kernel
theorem dX7_init_40 : decode cX7_init 40 = .ok (.putfield 27, 3) := by decide +kernel
theorem dX7_init_43 : decode cX7_init 43 = .ok (.aload_n 0, 1) := by decide +kernel
theorem dX7_init_44 : decode cX7_init 44 = .ok (.new 18, 3) := by decide +kernel
theorem dX7_init_47 : decode cX7_init 47 = .ok (.dup, 1) := by decide +kernel
theorem dX7_init_48 : decode cX7_init 48 = .ok (.bipush 16, 2) := by decide +kernel
theorem dX7_init_50 : decode cX7_init 50 = .ok (.iconst 2, 1) := by decide +kernel
theorem dX7_init_51 : decode cX7_init 51 = .ok (.invokespecial 20, 3) := by decide +kernel
theorem dX7_init_54 : decode cX7_init 54 = .ok (.putfield 30, 3) := by decide +kernel
theorem dX7_init_57 : decode cX7_init 57 = .ok (.return_, 1) := by decide +kernel
theorem dX7_clear_0 : decode cX7_clear 0 = .ok (.aload_n 0, 1) := by decide +kernel
theorem dX7_clear_1 : decode cX7_clear 1 = .ok (.getfield 12, 3) := by decide +kernel
theorem dX7_clear_4 : decode cX7_clear 4 = .ok (.getfield 33, 3) := by decide +kernel
theorem dX7_clear_7 : decode cX7_clear 7 = .ok (.iconst 0, 1) := by decide +kernel
theorem dX7_clear_8 : decode cX7_clear 8 = .ok (.invokevirtual 36, 3) := by decide +kernel
theorem dX7_clear_11 : decode cX7_clear 11 = .ok (.pop, 1) := by decide +kernel
theorem dX7_clear_12 : decode cX7_clear 12 = .ok (.aload_n 0, 1) := by decide +kernel
theorem dX7_clear_13 : decode cX7_clear 13 = .ok (.getfield 12, 3) := by decide +kernel
theorem dX7_clear_16 : decode cX7_clear 16 = .ok (.getfield 40, 3) := by decide +kernel
theorem dX7_clear_19 : decode cX7_clear 19 = .ok (.iconst 0, 1) := by decide +kernel
theorem dX7_clear_20 : decode cX7_clear 20 = .ok (.invokevirtual 36, 3) := by decide +kernel
theorem dX7_clear_23 : decode cX7_clear 23 = .ok (.pop, 1) := by decide +kernel
theorem dX7_clear_24 : decode cX7_clear 24 = .ok (.aload_n 0, 1) := by decide +kernel
theorem dX7_clear_25 : decode cX7_clear 25 = .ok (.getfield 23, 3) := by decide +kernel
theorem dX7_clear_28 : decode cX7_clear 28 = .ok (.iconst 0, 1) := by decide +kernel
theorem dX7_clear_29 : decode cX7_clear 29 = .ok (.invokevirtual 36, 3) := by decide +kernel
theorem dX7_clear_32 : decode cX7_clear 32 = .ok (.pop, 1) := by decide +kernel
theorem dX7_clear_33 : decode cX7_clear 33 = .ok (.aload_n 0, 1) := by decide +kernel
theorem dX7_clear_34 : decode cX7_clear 34 = .ok (.getfield 27, 3) := by decide +kernel
theorem dX7_clear_37 : decode cX7_clear 37 = .ok (.iconst 0, 1) := by decide +kernel
theorem dX7_clear_38 : decode cX7_clear 38 = .ok (.invokevirtual 36, 3) := by decide +kernel
theorem dX7_clear_41 : decode cX7_clear 41 = .ok (.pop, 1) := by decide +kernel
theorem dX7_clear_42 : decode cX7_clear 42 = .ok (.aload_n 0, 1) := by decide +kernel
theorem dX7_clear_43 : decode cX7_clear 43 = .ok (.getfield 30, 3) := by decide +kernel
theorem dX7_clear_46 : decode cX7_clear 46 = .ok (.iconst 0, 1) := by decide +kernel
theorem dX7_clear_47 : decode cX7_clear 47 = .ok (.invokevirtual 36, 3) := by decide +kernel
theorem dX7_clear_50 : decode cX7_clear 50 = .ok (.pop, 1) := by decide +kernel
theorem dX7_clear_51 : decode cX7_clear 51 = .ok (.return_, 1) := by decide +kernel
theorem dX7_copyFrom_0 : decode cX7_copyFrom 0 = .ok (.iconst 0, 1) := by decide +kernel
theorem dX7_copyFrom_1 : decode cX7_copyFrom 1 = .ok (.istore_n 2, 1) := by decide +kernel
theorem dX7_copyFrom_2 : decode cX7_copyFrom 2 = .ok (.iload_n 2, 1) := by decide +kernel
theorem dX7_copyFrom_3 : decode cX7_copyFrom 3 = .ok (.iconst 3, 1) := by decide +kernel
theorem dX7_copyFrom_4 : decode cX7_copyFrom 4 = .ok (.if_icmp .gt 15, 3) := by decide +kernel
theorem dX7_copyFrom_7 : decode cX7_copyFrom 7 = .ok (.aload_n 0, 1) := by decide +kernel
theorem dX7_copyFrom_8 : decode cX7_copyFrom 8 = .ok (.iload_n 2, 1) := by decide +kernel
theorem dX7_copyFrom_9 : decode cX7_copyFrom 9 = .ok (.aload_n 1, 1) := by decide +kernel
theorem dX7_copyFrom_10 : decode cX7_copyFrom 10 = .ok (.invokevirtual 43, 3) := by decide +kernel
theorem dX7_copyFrom_13 : decode cX7_copyFrom 13 = .ok (.iinc 2 1, 3) := by decide +kernel
theorem dX7_copyFrom_16 : decode cX7_copyFrom 16 = .ok (.goto (-14), 3) := by decide +kernel
theorem dX7_copyFrom_19 : decode cX7_copyFrom 19 = .ok (.return_, 1) := by decide +kernel
theorem dX7_adopt_0 : decode cX7_adopt 0 = .ok (.iload_n 1, 1) := by decide +kernel
theorem dX7_adopt_1 : decode cX7_adopt 1 = .ok (.tableswitch 87 0 3 #[31, 45, 59, 73], 31) := by decide +kernel
theorem dX7_adopt_32 : decode cX7_adopt 32 = .ok (.aload_n 0, 1) := by decide +kernel
theorem dX7_adopt_33 : decode cX7_adopt 33 = .ok (.getfield 12, 3) := by decide +kernel
theorem dX7_adopt_36 : decode cX7_adopt 36 = .ok (.aload_n 2, 1) := by decide +kernel
theorem dX7_adopt_37 : decode cX7_adopt 37 = .ok (.getfield 12, 3) := by decide +kernel
theorem dX7_adopt_40 : decode cX7_adopt 40 = .ok (.invokevirtual 47, 3) := by decide +kernel
theorem dX7_adopt_43 : decode cX7_adopt 43 = .ok (.goto 45, 3) := by decide +kernel
theorem dX7_adopt_46 : decode cX7_adopt 46 = .ok (.aload_n 0, 1) := by decide +kernel
theorem dX7_adopt_47 : decode cX7_adopt 47 = .ok (.getfield 23, 3) := by decide +kernel
theorem dX7_adopt_50 : decode cX7_adopt 50 = .ok (.aload_n 2, 1) := by decide +kernel
theorem dX7_adopt_51 : decode cX7_adopt 51 = .ok (.getfield 23, 3) := by decide +kernel
theorem dX7_adopt_54 : decode cX7_adopt 54 = .ok (.invokevirtual 51, 3) := by decide +kernel
theorem dX7_adopt_57 : decode cX7_adopt 57 = .ok (.goto 31, 3) := by decide +kernel
theorem dX7_adopt_60 : decode cX7_adopt 60 = .ok (.aload_n 0, 1) := by decide +kernel
theorem dX7_adopt_61 : decode cX7_adopt 61 = .ok (.getfield 27, 3) := by decide +kernel
theorem dX7_adopt_64 : decode cX7_adopt 64 = .ok (.aload_n 2, 1) := by decide +kernel
theorem dX7_adopt_65 : decode cX7_adopt 65 = .ok (.getfield 27, 3) := by decide +kernel
theorem dX7_adopt_68 : decode cX7_adopt 68 = .ok (.invokevirtual 51, 3) := by decide +kernel
theorem dX7_adopt_71 : decode cX7_adopt 71 = .ok (.goto 17, 3) := by decide +kernel
theorem dX7_adopt_74 : decode cX7_adopt 74 = .ok (.aload_n 0, 1) := by decide +kernel
theorem dX7_adopt_75 : decode cX7_adopt 75 = .ok (.getfield 30, 3) := by decide +kernel
theorem dX7_adopt_78 : decode cX7_adopt 78 = .ok (.aload_n 2, 1) := by decide +kernel
theorem dX7_adopt_79 : decode cX7_adopt 79 = .ok (.getfield 30, 3) := by decide +kernel
theorem dX7_adopt_82 : decode cX7_adopt 82 = .ok (.invokevirtual 51, 3) := by decide +kernel
theorem dX7_adopt_85 : decode cX7_adopt 85 = .ok (.goto 3, 3) := by decide +kernel
theorem dX7_adopt_88 : decode cX7_adopt 88 = .ok (.return_, 1) := by decide +kernel
theorem dX7_linesOf_0 : decode cX7_linesOf 0 = .ok (.iload_n 1, 1) := by decide +kernel
theorem dX7_linesOf_1 : decode cX7_linesOf 1 = .ok (.tableswitch 54 0 2 #[27, 38, 46], 27) := by decide +kernel
theorem dX7_linesOf_28 : decode cX7_linesOf 28 = .ok (.aload_n 0, 1) := by decide +kernel
theorem dX7_linesOf_29 : decode cX7_linesOf 29 = .ok (.getfield 12, 3) := by decide +kernel
theorem dX7_linesOf_32 : decode cX7_linesOf 32 = .ok (.getfield 33, 3) := by decide +kernel
theorem dX7_linesOf_35 : decode cX7_linesOf 35 = .ok (.getfield 54, 3) := by decide +kernel
theorem dX7_linesOf_38 : decode cX7_linesOf 38 = .ok (.ireturn, 1) := by decide +kernel
theorem dX7_linesOf_39 : decode cX7_linesOf 39 = .ok (.aload_n 0, 1) := by decide +kernel
theorem dX7_linesOf_40 : decode cX7_linesOf 40 = .ok (.getfield 23, 3) := by decide +kernel
theorem dX7_linesOf_43 : decode cX7_linesOf 43 = .ok (.getfield 54, 3) := by decide +kernel
theorem dX7_linesOf_46 : decode cX7_linesOf 46 = .ok (.ireturn, 1) := by decide +kernel
theorem dX7_linesOf_47 : decode cX7_linesOf 47 = .ok (.aload_n 0, 1) := by decide +kernel
theorem dX7_linesOf_48 : decode cX7_linesOf 48 = .ok (.getfield 27, 3) := by decide +kernel
theorem dX7_linesOf_51 : decode cX7_linesOf 51 = .ok (.getfield 54, 3) := by decide +kernel
theorem dX7_linesOf_54 : decode cX7_linesOf 54 = .ok (.ireturn, 1) := by decide +kernel
theorem dX7_linesOf_55 : decode cX7_linesOf 55 = .ok (.aload_n 0, 1) := by decide +kernel
theorem dX7_linesOf_56 : decode cX7_linesOf 56 = .ok (.getfield 30, 3) := by decide +kernel
theorem dX7_linesOf_59 : decode cX7_linesOf 59 = .ok (.getfield 54, 3) := by decide +kernel
theorem dX7_linesOf_62 : decode cX7_linesOf 62 = .ok (.ireturn, 1) := by decide +kernel
theorem dX7_nearOf_0 : decode cX7_nearOf 0 = .ok (.iconst 0, 1) := by decide +kernel
theorem dX7_nearOf_1 : decode cX7_nearOf 1 = .ok (.istore_n 2, 1) := by decide +kernel
theorem dX7_nearOf_2 : decode cX7_nearOf 2 = .ok (.iconst 0, 1) := by decide +kernel
theorem dX7_nearOf_3 : decode cX7_nearOf 3 = .ok (.istore_n 3, 1) := by decide +kernel
theorem dX7_nearOf_4 : decode cX7_nearOf 4 = .ok (.iload_n 3, 1) := by decide +kernel
theorem dX7_nearOf_5 : decode cX7_nearOf 5 = .ok (.aload_n 0, 1) := by decide +kernel
theorem dX7_nearOf_6 : decode cX7_nearOf 6 = .ok (.getfield 30, 3) := by decide +kernel
theorem dX7_nearOf_9 : decode cX7_nearOf 9 = .ok (.getfield 54, 3) := by decide +kernel
theorem dX7_nearOf_12 : decode cX7_nearOf 12 = .ok (.if_icmp .ge 57, 3) := by decide +kernel
theorem dX7_nearOf_15 : decode cX7_nearOf 15 = .ok (.aload_n 0, 1) := by decide +kernel
theorem dX7_nearOf_16 : decode cX7_nearOf 16 = .ok (.getfield 30, 3) := by decide +kernel
theorem dX7_nearOf_19 : decode cX7_nearOf 19 = .ok (.iload_n 3, 1) := by decide +kernel
theorem dX7_nearOf_20 : decode cX7_nearOf 20 = .ok (.iconst 0, 1) := by decide +kernel
theorem dX7_nearOf_21 : decode cX7_nearOf 21 = .ok (.invokevirtual 58, 3) := by decide +kernel
theorem dX7_nearOf_24 : decode cX7_nearOf 24 = .ok (.istore 4, 2) := by decide +kernel
theorem dX7_nearOf_26 : decode cX7_nearOf 26 = .ok (.aload_n 0, 1) := by decide +kernel
theorem dX7_nearOf_27 : decode cX7_nearOf 27 = .ok (.getfield 30, 3) := by decide +kernel
theorem dX7_nearOf_30 : decode cX7_nearOf 30 = .ok (.iload_n 3, 1) := by decide +kernel
theorem dX7_nearOf_31 : decode cX7_nearOf 31 = .ok (.iconst 1, 1) := by decide +kernel
theorem dX7_nearOf_32 : decode cX7_nearOf 32 = .ok (.invokevirtual 58, 3) := by decide +kernel
theorem dX7_nearOf_35 : decode cX7_nearOf 35 = .ok (.istore 5, 2) := by decide +kernel
theorem dX7_nearOf_37 : decode cX7_nearOf 37 = .ok (.iload 4, 2) := by decide +kernel
theorem dX7_nearOf_39 : decode cX7_nearOf 39 = .ok (.iload_n 1, 1) := by decide +kernel
theorem dX7_nearOf_40 : decode cX7_nearOf 40 = .ok (.if_icmp .ne 10, 3) := by decide +kernel
theorem dX7_nearOf_43 : decode cX7_nearOf 43 = .ok (.iload_n 2, 1) := by decide +kernel
theorem dX7_nearOf_44 : decode cX7_nearOf 44 = .ok (.iconst 1, 1) := by decide +kernel
theorem dX7_nearOf_45 : decode cX7_nearOf 45 = .ok (.iload 5, 2) := by decide +kernel
theorem dX7_nearOf_47 : decode cX7_nearOf 47 = .ok (.ishl, 1) := by decide +kernel
theorem dX7_nearOf_48 : decode cX7_nearOf 48 = .ok (.ior, 1) := by decide +kernel
theorem dX7_nearOf_49 : decode cX7_nearOf 49 = .ok (.istore_n 2, 1) := by decide +kernel
theorem dX7_nearOf_50 : decode cX7_nearOf 50 = .ok (.iload 5, 2) := by decide +kernel
theorem dX7_nearOf_52 : decode cX7_nearOf 52 = .ok (.iload_n 1, 1) := by decide +kernel
theorem dX7_nearOf_53 : decode cX7_nearOf 53 = .ok (.if_icmp .ne 10, 3) := by decide +kernel
theorem dX7_nearOf_56 : decode cX7_nearOf 56 = .ok (.iload_n 2, 1) := by decide +kernel
theorem dX7_nearOf_57 : decode cX7_nearOf 57 = .ok (.iconst 1, 1) := by decide +kernel
theorem dX7_nearOf_58 : decode cX7_nearOf 58 = .ok (.iload 4, 2) := by decide +kernel
theorem dX7_nearOf_60 : decode cX7_nearOf 60 = .ok (.ishl, 1) := by decide +kernel
theorem dX7_nearOf_61 : decode cX7_nearOf 61 = .ok (.ior, 1) := by decide +kernel
theorem dX7_nearOf_62 : decode cX7_nearOf 62 = .ok (.istore_n 2, 1) := by decide +kernel
theorem dX7_nearOf_63 : decode cX7_nearOf 63 = .ok (.iinc 3 1, 3) := by decide +kernel
theorem dX7_nearOf_66 : decode cX7_nearOf 66 = .ok (.goto (-62), 3) := by decide +kernel
theorem dX7_nearOf_69 : decode cX7_nearOf 69 = .ok (.iload_n 2, 1) := by decide +kernel
theorem dX7_nearOf_70 : decode cX7_nearOf 70 = .ok (.ireturn, 1) := by decide +kernel
theorem dX8_init_0 : decode cX8_init 0 = .ok (.aload_n 0, 1) := by decide +kernel
theorem dX8_init_1 : decode cX8_init 1 = .ok (.invokespecial 5, 3) := by decide +kernel
theorem dX8_init_4 : decode cX8_init 4 = .ok (.aload_n 0, 1) := by decide +kernel
theorem dX8_init_5 : decode cX8_init 5 = .ok (.new 11, 3) := by decide +kernel
theorem dX8_init_8 : decode cX8_init 8 = .ok (.dup, 1) := by decide +kernel
theorem dX8_init_9 : decode cX8_init 9 = .ok (.bipush 12, 2) := by decide +kernel
theorem dX8_init_11 : decode cX8_init 11 = .ok (.iconst 2, 1) := by decide +kernel
theorem dX8_init_12 : decode cX8_init 12 = .ok (.invokespecial 13, 3) := by decide +kernel
theorem dX8_init_15 : decode cX8_init 15 = .ok (.putfield 16, 3) := by decide +kernel
theorem dX8_init_18 : decode cX8_init 18 = .ok (.aload_n 0, 1) := by decide +kernel
theorem dX8_init_19 : decode cX8_init 19 = .ok (.bipush 9, 2) := by decide +kernel
theorem dX8_init_21 : decode cX8_init 21 = .ok (.newarray .int, 2) := by decide +kernel
theorem dX8_init_23 : decode cX8_init 23 = .ok (.putfield 20, 3) := by decide +kernel
theorem dX8_init_26 : decode cX8_init 26 = .ok (.aload_n 0, 1) := by decide +kernel
theorem dX8_init_27 : decode cX8_init 27 = .ok (.new 11, 3) := by decide +kernel
theorem dX8_init_30 : decode cX8_init 30 = .ok (.dup, 1) := by decide +kernel
theorem dX8_init_31 : decode cX8_init 31 = .ok (.bipush 8, 2) := by decide +kernel
theorem dX8_init_33 : decode cX8_init 33 = .ok (.iconst 2, 1) := by decide +kernel
theorem dX8_init_34 : decode cX8_init 34 = .ok (.invokespecial 13, 3) := by decide +kernel
theorem dX8_init_37 : decode cX8_init 37 = .ok (.putfield 24, 3) := by decide +kernel
theorem dX8_init_40 : decode cX8_init 40 = .ok (.aload_n 0, 1) := by decide +kernel
theorem dX8_init_41 : decode cX8_init 41 = .ok (.new 11, 3) := by decide +kernel
theorem dX8_init_44 : decode cX8_init 44 = .ok (.dup, 1) := by decide +kernel
theorem dX8_init_45 : decode cX8_init 45 = .ok (.bipush 6, 2) := by decide +kernel
theorem dX8_init_47 : decode cX8_init 47 = .ok (.iconst 2, 1) := by decide +kernel
theorem dX8_init_48 : decode cX8_init 48 = .ok (.invokespecial 13, 3) := by decide +kernel
theorem dX8_init_51 : decode cX8_init 51 = .ok (.putfield 27, 3) := by decide +kernel
theorem dX8_init_54 : decode cX8_init 54 = .ok (.aload_n 0, 1) := by decide +kernel
theorem dX8_init_55 : decode cX8_init 55 = .ok (.new 11, 3) := by decide +kernel
theorem dX8_init_58 : decode cX8_init 58 = .ok (.dup, 1) := by decide +kernel
theorem dX8_init_59 : decode cX8_init 59 = .ok (.bipush 7, 2) := by decide +kernel
theorem dX8_init_61 : decode cX8_init 61 = .ok (.iconst 2, 1) := by decide +kernel
theorem dX8_init_62 : decode cX8_init 62 = .ok (.invokespecial 13, 3) := by decide +kernel
theorem dX8_init_65 : decode cX8_init 65 = .ok (.putfield 30, 3) := by decide +kernel
theorem dX8_init_68 : decode cX8_init 68 = .ok (.aload_n 0, 1) := by decide +kernel
theorem dX8_init_69 : decode cX8_init 69 = .ok (.new 11, 3) := by decide +kernel
theorem dX8_init_72 : decode cX8_init 72 = .ok (.dup, 1) := by decide +kernel
theorem dX8_init_73 : decode cX8_init 73 = .ok (.bipush 8, 2) := by decide +kernel
theorem dX8_init_75 : decode cX8_init 75 = .ok (.iconst 1, 1) := by decide +kernel
theorem dX8_init_76 : decode cX8_init 76 = .ok (.invokespecial 13, 3) := by decide +kernel
theorem dX8_init_79 : decode cX8_init 79 = .ok (.putfield 33, 3) := by decide +kernel
theorem dX8_init_82 : decode cX8_init 82 = .ok (.aload_n 0, 1) := by decide +kernel
theorem dX8_init_83 : decode cX8_init 83 = .ok (.new 11, 3) := by decide +kernel
theorem dX8_init_86 : decode cX8_init 86 = .ok (.dup, 1) := by decide +kernel
theorem dX8_init_87 : decode cX8_init 87 = .ok (.bipush 12, 2) := by decide +kernel
theorem dX8_init_89 : decode cX8_init 89 = .ok (.iconst 1, 1) := by decide +kernel
theorem dX8_init_90 : decode cX8_init 90 = .ok (.invokespecial 13, 3) := by decide +kernel
theorem dX8_init_93 : decode cX8_init 93 = .ok (.putfield 36, 3) := by decide +kernel
theorem dX8_init_96 : decode cX8_init 96 = .ok (.aload_n 0, 1) := by decide +kernel
theorem dX8_init_97 : decode cX8_init 97 = .ok (.new 11, 3) := by decide +kernel
theorem dX8_init_100 : decode cX8_init 100 = .ok (.dup, 1) := by decide +kernel
theorem dX8_init_101 : decode cX8_init 101 = .ok (.bipush 12, 2) := by decide +kernel
theorem dX8_init_103 : decode cX8_init 103 = .ok (.iconst 1, 1) := by decide +kernel
theorem dX8_init_104 : decode cX8_init 104 = .ok (.invokespecial 13, 3) := by decide +kernel
theorem dX8_init_107 : decode cX8_init 107 = .ok (.putfield 39, 3) := by decide +kernel
theorem dX8_init_110 : decode cX8_init 110 = .ok (.aload_n 0, 1) := by decide +kernel
theorem dX8_init_111 : decode cX8_init 111 = .ok (.bipush 12, 2) := by decide +kernel
theorem dX8_init_113 : decode cX8_init 113 = .ok (.newarray .int, 2) := by decide +kernel
theorem dX8_init_115 : decode cX8_init 115 = .ok (.putfield 42, 3) := by decide +kernel
theorem dX8_init_118 : decode cX8_init 118 = .ok (.return_, 1) := by decide +kernel
theorem dX8_copyFrom_0 : decode cX8_copyFrom 0 = .ok (.aload_n 0, 1) := by decide +kernel
theorem dX8_copyFrom_1 : decode cX8_copyFrom 1 = .ok (.getfield 16, 3) := by decide +kernel
theorem dX8_copyFrom_4 : decode cX8_copyFrom 4 = .ok (.aload_n 1, 1) := by decide +kernel
theorem dX8_copyFrom_5 : decode cX8_copyFrom 5 = .ok (.getfield 16, 3) := by decide +kernel
theorem dX8_copyFrom_8 : decode cX8_copyFrom 8 = .ok (.invokevirtual 45, 3) := by decide +kernel
theorem dX8_copyFrom_11 : decode cX8_copyFrom 11 = .ok (.aload_n 1, 1) := by decide +kernel
theorem dX8_copyFrom_12 : decode cX8_copyFrom 12 = .ok (.getfield 20, 3) := by decide +kernel
theorem dX8_copyFrom_15 : decode cX8_copyFrom 15 = .ok (.iconst 0, 1) := by decide +kernel
theorem dX8_copyFrom_16 : decode cX8_copyFrom 16 = .ok (.aload_n 0, 1) := by decide +kernel
theorem dX8_copyFrom_17 : decode cX8_copyFrom 17 = .ok (.getfield 20, 3) := by decide +kernel
theorem dX8_copyFrom_20 : decode cX8_copyFrom 20 = .ok (.iconst 0, 1) := by decide +kernel
theorem dX8_copyFrom_21 : decode cX8_copyFrom 21 = .ok (.aload_n 0, 1) := by decide +kernel
theorem dX8_copyFrom_22 : decode cX8_copyFrom 22 = .ok (.getfield 20, 3) := by decide +kernel
theorem dX8_copyFrom_25 : decode cX8_copyFrom 25 = .ok (.arraylength, 1) := by decide +kernel
theorem dX8_copyFrom_26 : decode cX8_copyFrom 26 = .ok (.invokestatic 49, 3) := by decide +kernel
theorem dX8_copyFrom_29 : decode cX8_copyFrom 29 = .ok (.aload_n 0, 1) := by decide +kernel
theorem dX8_copyFrom_30 : decode cX8_copyFrom 30 = .ok (.getfield 24, 3) := by decide +kernel
theorem dX8_copyFrom_33 : decode cX8_copyFrom 33 = .ok (.aload_n 1, 1) := by decide +kernel
theorem dX8_copyFrom_34 : decode cX8_copyFrom 34 = .ok (.getfield 24, 3) := by decide +kernel
theorem dX8_copyFrom_37 : decode cX8_copyFrom 37 = .ok (.invokevirtual 45, 3) := by decide +kernel
theorem dX8_copyFrom_40 : decode cX8_copyFrom 40 = .ok (.aload_n 0, 1) := by decide +kernel
theorem dX8_copyFrom_41 : decode cX8_copyFrom 41 = .ok (.getfield 27, 3) := by decide +kernel
theorem dX8_copyFrom_44 : decode cX8_copyFrom 44 = .ok (.aload_n 1, 1) := by decide +kernel
theorem dX8_copyFrom_45 : decode cX8_copyFrom 45 = .ok (.getfield 27, 3) := by decide +kernel
theorem dX8_copyFrom_48 : decode cX8_copyFrom 48 = .ok (.invokevirtual 45, 3) := by decide +kernel
theorem dX8_copyFrom_51 : decode cX8_copyFrom 51 = .ok (.aload_n 0, 1) := by decide +kernel
theorem dX8_copyFrom_52 : decode cX8_copyFrom 52 = .ok (.getfield 30, 3) := by decide +kernel
theorem dX8_copyFrom_55 : decode cX8_copyFrom 55 = .ok (.aload_n 1, 1) := by decide +kernel
theorem dX8_copyFrom_56 : decode cX8_copyFrom 56 = .ok (.getfield 30, 3) := by decide +kernel
theorem dX8_copyFrom_59 : decode cX8_copyFrom 59 = .ok (.invokevirtual 45, 3) := by decide +kernel
theorem dX8_copyFrom_62 : decode cX8_copyFrom 62 = .ok (.aload_n 0, 1) := by decide +kernel
theorem dX8_copyFrom_63 : decode cX8_copyFrom 63 = .ok (.getfield 33, 3) := by decide +kernel
theorem dX8_copyFrom_66 : decode cX8_copyFrom 66 = .ok (.aload_n 1, 1) := by decide +kernel
theorem dX8_copyFrom_67 : decode cX8_copyFrom 67 = .ok (.getfield 33, 3) := by decide +kernel
theorem dX8_copyFrom_70 : decode cX8_copyFrom 70 = .ok (.invokevirtual 45, 3) := by decide +kernel
theorem dX8_copyFrom_73 : decode cX8_copyFrom 73 = .ok (.aload_n 0, 1) := by decide +kernel
theorem dX8_copyFrom_74 : decode cX8_copyFrom 74 = .ok (.getfield 36, 3) := by decide +kernel
theorem dX8_copyFrom_77 : decode cX8_copyFrom 77 = .ok (.aload_n 1, 1) := by decide +kernel
theorem dX8_copyFrom_78 : decode cX8_copyFrom 78 = .ok (.getfield 36, 3) := by decide +kernel
theorem dX8_copyFrom_81 : decode cX8_copyFrom 81 = .ok (.invokevirtual 45, 3) := by decide +kernel
theorem dX8_copyFrom_84 : decode cX8_copyFrom 84 = .ok (.aload_n 0, 1) := by decide +kernel
theorem dX8_copyFrom_85 : decode cX8_copyFrom 85 = .ok (.getfield 39, 3) := by decide +kernel
theorem dX8_copyFrom_88 : decode cX8_copyFrom 88 = .ok (.aload_n 1, 1) := by decide +kernel
theorem dX8_copyFrom_89 : decode cX8_copyFrom 89 = .ok (.getfield 39, 3) := by decide +kernel
theorem dX8_copyFrom_92 : decode cX8_copyFrom 92 = .ok (.invokevirtual 45, 3) := by decide +kernel
theorem dX8_copyFrom_95 : decode cX8_copyFrom 95 = .ok (.aload_n 0, 1) := by decide +kernel
theorem dX8_copyFrom_96 : decode cX8_copyFrom 96 = .ok (.aload_n 1, 1) := by decide +kernel
theorem dX8_copyFrom_97 : decode cX8_copyFrom 97 = .ok (.getfield 55, 3) := by decide +kernel
theorem dX8_copyFrom_100 : decode cX8_copyFrom 100 = .ok (.putfield 55, 3) := by decide +kernel
theorem dX8_copyFrom_103 : decode cX8_copyFrom 103 = .ok (.return_, 1) := by decide +kernel
theorem dX8_waysToHang_0 : decode cX8_waysToHang 0 = .ok (.aload_n 0, 1) := by decide +kernel
theorem dX8_waysToHang_1 : decode cX8_waysToHang 1 = .ok (.getfield 16, 3) := by decide +kernel
theorem dX8_waysToHang_4 : decode cX8_waysToHang 4 = .ok (.iconst 0, 1) := by decide +kernel
theorem dX8_waysToHang_5 : decode cX8_waysToHang 5 = .ok (.iconst 5, 1) := by decide +kernel
theorem dX8_waysToHang_6 : decode cX8_waysToHang 6 = .ok (.ldc 59, 2) := by decide +kernel
theorem dX8_waysToHang_8 : decode cX8_waysToHang 8 = .ok (.invokestatic 60, 3) := by decide +kernel
theorem dX8_waysToHang_11 : decode cX8_waysToHang 11 = .ok (.ireturn, 1) := by decide +kernel
theorem dX8_waysToJoin_0 : decode cX8_waysToJoin 0 = .ok (.iload_n 2, 1) := by decide +kernel
theorem dX8_waysToJoin_1 : decode cX8_waysToJoin 1 = .ok (.ifCond .ne 5, 3) := by decide +kernel
theorem dX8_waysToJoin_4 : decode cX8_waysToJoin 4 = .ok (.iconst 1, 1) := by decide +kernel
theorem dX8_waysToJoin_5 : decode cX8_waysToJoin 5 = .ok (.ireturn, 1) := by decide +kernel
theorem dX8_waysToJoin_6 : decode cX8_waysToJoin 6 = .ok (.aload_n 0, 1) := by decide +kernel
theorem dX8_waysToJoin_7 : decode cX8_waysToJoin 7 = .ok (.getfield 64, 3) := by decide +kernel
theorem dX8_waysToJoin_10 : decode cX8_waysToJoin 10 = .ok (.iload_n 1, 1) := by decide +kernel
theorem dX8_waysToJoin_11 : decode cX8_waysToJoin 11 = .ok (.isub, 1) := by decide +kernel
theorem dX8_waysToJoin_12 : decode cX8_waysToJoin 12 = .ok (.iload_n 2, 1) := by decide +kernel
theorem dX8_waysToJoin_13 : decode cX8_waysToJoin 13 = .ok (.if_icmp .ge 5, 3) := by decide +kernel
theorem dX8_waysToJoin_16 : decode cX8_waysToJoin 16 = .ok (.iconst 0, 1) := by decide +kernel
theorem dX8_waysToJoin_17 : decode cX8_waysToJoin 17 = .ok (.ireturn, 1) := by decide +kernel
theorem dX8_waysToJoin_18 : decode cX8_waysToJoin 18 = .ok (.aload_n 0, 1) := by decide +kernel
theorem dX8_waysToJoin_19 : decode cX8_waysToJoin 19 = .ok (.iload_n 1, 1) := by decide +kernel
theorem dX8_waysToJoin_20 : decode cX8_waysToJoin 20 = .ok (.iconst 1, 1) := by decide +kernel
theorem dX8_waysToJoin_21 : decode cX8_waysToJoin 21 = .ok (.iadd, 1) := by decide +kernel
theorem dX8_waysToJoin_22 : decode cX8_waysToJoin 22 = .ok (.iload_n 2, 1) := by decide +kernel
theorem dX8_waysToJoin_23 : decode cX8_waysToJoin 23 = .ok (.iload_n 3, 1) := by decide +kernel
theorem dX8_waysToJoin_24 : decode cX8_waysToJoin 24 = .ok (.invokestatic 60, 3) := by decide +kernel
theorem dX8_waysToJoin_27 : decode cX8_waysToJoin 27 = .ok (.istore 4, 2) := by decide +kernel
theorem dX8_waysToJoin_29 : decode cX8_waysToJoin 29 = .ok (.iload_n 3, 1) := by decide +kernel
theorem dX8_waysToJoin_30 : decode cX8_waysToJoin 30 = .ok (.iconst 3, 1) := by decide +kernel
theorem dX8_waysToJoin_31 : decode cX8_waysToJoin 31 = .ok (.aload_n 0, 1) := by decide +kernel
theorem dX8_waysToJoin_32 : decode cX8_waysToJoin 32 = .ok (.iload_n 1, 1) := by decide +kernel
theorem dX8_waysToJoin_33 : decode cX8_waysToJoin 33 = .ok (.iconst 0, 1) := by decide +kernel
theorem dX8_waysToJoin_34 : decode cX8_waysToJoin 34 = .ok (.invokevirtual 68, 3) := by decide +kernel
theorem dX8_waysToJoin_37 : decode cX8_waysToJoin 37 = .ok (.imul, 1) := by decide +kernel
theorem dX8_waysToJoin_38 : decode cX8_waysToJoin 38 = .ok (.ishr, 1) := by decide +kernel
theorem dX8_waysToJoin_39 : decode cX8_waysToJoin 39 = .ok (.bipush 7, 2) := by decide +kernel
theorem dX8_waysToJoin_41 : decode cX8_waysToJoin 41 = .ok (.iand, 1) := by decide +kernel
theorem dX8_waysToJoin_42 : decode cX8_waysToJoin 42 = .ok (.istore 5, 2) := by decide +kernel
theorem dX8_waysToJoin_44 : decode cX8_waysToJoin 44 = .ok (.iload_n 3, 1) := by decide +kernel
theorem dX8_waysToJoin_45 : decode cX8_waysToJoin 45 = .ok (.iconst 3, 1) := by decide +kernel
theorem dX8_waysToJoin_46 : decode cX8_waysToJoin 46 = .ok (.aload_n 0, 1) := by decide +kernel
theorem dX8_waysToJoin_47 : decode cX8_waysToJoin 47 = .ok (.iload_n 1, 1) := by decide +kernel
theorem dX8_waysToJoin_48 : decode cX8_waysToJoin 48 = .ok (.iconst 1, 1) := by decide +kernel
theorem dX8_waysToJoin_49 : decode cX8_waysToJoin 49 = .ok (.invokevirtual 68, 3) := by decide +kernel
theorem dX8_waysToJoin_52 : decode cX8_waysToJoin 52 = .ok (.imul, 1) := by decide +kernel
theorem dX8_waysToJoin_53 : decode cX8_waysToJoin 53 = .ok (.ishr, 1) := by decide +kernel
theorem dX8_waysToJoin_54 : decode cX8_waysToJoin 54 = .ok (.bipush 7, 2) := by decide +kernel
theorem dX8_waysToJoin_56 : decode cX8_waysToJoin 56 = .ok (.iand, 1) := by decide +kernel
theorem dX8_waysToJoin_57 : decode cX8_waysToJoin 57 = .ok (.istore 6, 2) := by decide +kernel
theorem dX8_waysToJoin_59 : decode cX8_waysToJoin 59 = .ok (.iload 5, 2) := by decide +kernel
theorem dX8_waysToJoin_61 : decode cX8_waysToJoin 61 = .ok (.iload 6, 2) := by decide +kernel
theorem dX8_waysToJoin_63 : decode cX8_waysToJoin 63 = .ok (.if_icmp .eq 26, 3) := by decide +kernel
theorem dX8_waysToJoin_66 : decode cX8_waysToJoin 66 = .ok (.iload 4, 2) := by decide +kernel
theorem dX8_waysToJoin_68 : decode cX8_waysToJoin 68 = .ok (.aload_n 0, 1) := by decide +kernel
theorem dX8_waysToJoin_69 : decode cX8_waysToJoin 69 = .ok (.iload_n 1, 1) := by decide +kernel
theorem dX8_waysToJoin_70 : decode cX8_waysToJoin 70 = .ok (.iconst 1, 1) := by decide +kernel
theorem dX8_waysToJoin_71 : decode cX8_waysToJoin 71 = .ok (.iadd, 1) := by decide +kernel
theorem dX8_waysToJoin_72 : decode cX8_waysToJoin 72 = .ok (.iload_n 2, 1) := by decide +kernel
theorem dX8_waysToJoin_73 : decode cX8_waysToJoin 73 = .ok (.iconst 1, 1) := by decide +kernel
theorem dX8_waysToJoin_74 : decode cX8_waysToJoin 74 = .ok (.isub, 1) := by decide +kernel
theorem dX8_waysToJoin_75 : decode cX8_waysToJoin 75 = .ok (.iload_n 3, 1) := by decide +kernel
theorem dX8_waysToJoin_76 : decode cX8_waysToJoin 76 = .ok (.iload 5, 2) := by decide +kernel
theorem dX8_waysToJoin_78 : decode cX8_waysToJoin 78 = .ok (.iload 6, 2) := by decide +kernel
theorem dX8_waysToJoin_80 : decode cX8_waysToJoin 80 = .ok (.invokestatic 72, 3) := by decide +kernel
theorem dX8_waysToJoin_83 : decode cX8_waysToJoin 83 = .ok (.invokestatic 60, 3) := by decide +kernel
theorem dX8_waysToJoin_86 : decode cX8_waysToJoin 86 = .ok (.iadd, 1) := by decide +kernel
theorem dX8_waysToJoin_87 : decode cX8_waysToJoin 87 = .ok (.istore 4, 2) := by decide +kernel
theorem dX8_waysToJoin_89 : decode cX8_waysToJoin 89 = .ok (.iload 4, 2) := by decide +kernel
theorem dX8_waysToJoin_91 : decode cX8_waysToJoin 91 = .ok (.ireturn, 1) := by decide +kernel
theorem dX8_joinedParts_0 : decode cX8_joinedParts 0 = .ok (.iload_n 0, 1) := by decide +kernel
theorem dX8_joinedParts_1 : decode cX8_joinedParts 1 = .ok (.istore_n 3, 1) := by decide +kernel
theorem dX8_joinedParts_2 : decode cX8_joinedParts 2 = .ok (.iconst 0, 1) := by decide +kernel
theorem dX8_joinedParts_3 : decode cX8_joinedParts 3 = .ok (.istore 4, 2) := by decide +kernel
theorem dX8_joinedParts_5 : decode cX8_joinedParts 5 = .ok (.iload 4, 2) := by decide +kernel
theorem dX8_joinedParts_7 : decode cX8_joinedParts 7 = .ok (.bipush 18, 2) := by decide +kernel
theorem dX8_joinedParts_9 : decode cX8_joinedParts 9 = .ok (.if_icmp .ge 35, 3) := by decide +kernel
theorem dX8_joinedParts_12 : decode cX8_joinedParts 12 = .ok (.iload_n 0, 1) := by decide +kernel
theorem dX8_joinedParts_13 : decode cX8_joinedParts 13 = .ok (.iload 4, 2) := by decide +kernel
theorem dX8_joinedParts_15 : decode cX8_joinedParts 15 = .ok (.ishr, 1) := by decide +kernel
theorem dX8_joinedParts_16 : decode cX8_joinedParts 16 = .ok (.bipush 7, 2) := by decide +kernel
theorem dX8_joinedParts_18 : decode cX8_joinedParts 18 = .ok (.iand, 1) := by decide +kernel
theorem dX8_joinedParts_19 : decode cX8_joinedParts 19 = .ok (.iload_n 2, 1) := by decide +kernel
theorem dX8_joinedParts_20 : decode cX8_joinedParts 20 = .ok (.if_icmp .ne 18, 3) := by decide +kernel
theorem dX8_joinedParts_23 : decode cX8_joinedParts 23 = .ok (.iload_n 3, 1) := by decide +kernel
theorem dX8_joinedParts_24 : decode cX8_joinedParts 24 = .ok (.bipush 7, 2) := by decide +kernel
theorem dX8_joinedParts_26 : decode cX8_joinedParts 26 = .ok (.iload 4, 2) := by decide +kernel
theorem dX8_joinedParts_28 : decode cX8_joinedParts 28 = .ok (.ishl, 1) := by decide +kernel
theorem dX8_joinedParts_29 : decode cX8_joinedParts 29 = .ok (.iconst (-1), 1) := by decide +kernel
theorem dX8_joinedParts_30 : decode cX8_joinedParts 30 = .ok (.ixor, 1) := by decide +kernel
theorem dX8_joinedParts_31 : decode cX8_joinedParts 31 = .ok (.iand, 1) := by decide +kernel
theorem dX8_joinedParts_32 : decode cX8_joinedParts 32 = .ok (.iload_n 1, 1) := by decide +kernel
theorem dX8_joinedParts_33 : decode cX8_joinedParts 33 = .ok (.iload 4, 2) := by decide +kernel
theorem dX8_joinedParts_35 : decode cX8_joinedParts 35 = .ok (.ishl, 1) := by decide +kernel
theorem dX8_joinedParts_36 : decode cX8_joinedParts 36 = .ok (.ior, 1) := by decide +kernel
theorem dX8_joinedParts_37 : decode cX8_joinedParts 37 = .ok (.istore_n 3, 1) := by decide +kernel
theorem dX8_joinedParts_38 : decode cX8_joinedParts 38 = .ok (.iinc 4 3, 3) := by decide +kernel
theorem dX8_joinedParts_41 : decode cX8_joinedParts 41 = .ok (.goto (-36), 3) := by decide +kernel
theorem dX8_joinedParts_44 : decode cX8_joinedParts 44 = .ok (.iload_n 3, 1) := by decide +kernel
theorem dX8_joinedParts_45 : decode cX8_joinedParts 45 = .ok (.ireturn, 1) := by decide +kernel
theorem dX8_squareDeterminant_0 : decode cX8_squareDeterminant 0 = .ok (.aload_n 0, 1) := by decide +kernel
theorem dX8_squareDeterminant_1 : decode cX8_squareDeterminant 1 = .ok (.getfield 20, 3) := by decide +kernel
theorem dX8_squareDeterminant_4 : decode cX8_squareDeterminant 4 = .ok (.iconst 0, 1) := by decide +kernel
theorem dX8_squareDeterminant_5 : decode cX8_squareDeterminant 5 = .ok (.iaload, 1) := by decide +kernel
theorem dX8_squareDeterminant_6 : decode cX8_squareDeterminant 6 = .ok (.aload_n 0, 1) := by decide +kernel
theorem dX8_squareDeterminant_7 : decode cX8_squareDeterminant 7 = .ok (.getfield 20, 3) := by decide +kernel
theorem dX8_squareDeterminant_10 : decode cX8_squareDeterminant 10 = .ok (.iconst 4, 1) := by decide +kernel
theorem dX8_squareDeterminant_11 : decode cX8_squareDeterminant 11 = .ok (.iaload, 1) := by decide +kernel
theorem dX8_squareDeterminant_12 : decode cX8_squareDeterminant 12 = .ok (.aload_n 0, 1) := by decide +kernel
theorem dX8_squareDeterminant_13 : decode cX8_squareDeterminant 13 = .ok (.getfield 20, 3) := by decide +kernel
theorem dX8_squareDeterminant_16 : decode cX8_squareDeterminant 16 = .ok (.bipush 8, 2) := by decide +kernel
theorem dX8_squareDeterminant_18 : decode cX8_squareDeterminant 18 = .ok (.iaload, 1) := by decide +kernel
theorem dX8_squareDeterminant_19 : decode cX8_squareDeterminant 19 = .ok (.imul, 1) := by decide +kernel
theorem dX8_squareDeterminant_20 : decode cX8_squareDeterminant 20 = .ok (.aload_n 0, 1) := by decide +kernel
theorem dX8_squareDeterminant_21 : decode cX8_squareDeterminant 21 = .ok (.getfield 20, 3) := by decide +kernel
theorem dX8_squareDeterminant_24 : decode cX8_squareDeterminant 24 = .ok (.iconst 5, 1) := by decide +kernel
theorem dX8_squareDeterminant_25 : decode cX8_squareDeterminant 25 = .ok (.iaload, 1) := by decide +kernel
theorem dX8_squareDeterminant_26 : decode cX8_squareDeterminant 26 = .ok (.aload_n 0, 1) := by decide +kernel
theorem dX8_squareDeterminant_27 : decode cX8_squareDeterminant 27 = .ok (.getfield 20, 3) := by decide +kernel
theorem dX8_squareDeterminant_30 : decode cX8_squareDeterminant 30 = .ok (.bipush 7, 2) := by decide +kernel
theorem dX8_squareDeterminant_32 : decode cX8_squareDeterminant 32 = .ok (.iaload, 1) := by decide +kernel
theorem dX8_squareDeterminant_33 : decode cX8_squareDeterminant 33 = .ok (.imul, 1) := by decide +kernel
theorem dX8_squareDeterminant_34 : decode cX8_squareDeterminant 34 = .ok (.isub, 1) := by decide +kernel
theorem dX8_squareDeterminant_35 : decode cX8_squareDeterminant 35 = .ok (.imul, 1) := by decide +kernel
theorem dX8_squareDeterminant_36 : decode cX8_squareDeterminant 36 = .ok (.aload_n 0, 1) := by decide +kernel
theorem dX8_squareDeterminant_37 : decode cX8_squareDeterminant 37 = .ok (.getfield 20, 3) := by decide +kernel
theorem dX8_squareDeterminant_40 : decode cX8_squareDeterminant 40 = .ok (.iconst 1, 1) := by decide +kernel
theorem dX8_squareDeterminant_41 : decode cX8_squareDeterminant 41 = .ok (.iaload, 1) := by decide +kernel
theorem dX8_squareDeterminant_42 : decode cX8_squareDeterminant 42 = .ok (.aload_n 0, 1) := by decide +kernel
theorem dX8_squareDeterminant_43 : decode cX8_squareDeterminant 43 = .ok (.getfield 20, 3) := by decide +kernel
theorem dX8_squareDeterminant_46 : decode cX8_squareDeterminant 46 = .ok (.iconst 3, 1) := by decide +kernel
theorem dX8_squareDeterminant_47 : decode cX8_squareDeterminant 47 = .ok (.iaload, 1) := by decide +kernel
theorem dX8_squareDeterminant_48 : decode cX8_squareDeterminant 48 = .ok (.aload_n 0, 1) := by decide +kernel
theorem dX8_squareDeterminant_49 : decode cX8_squareDeterminant 49 = .ok (.getfield 20, 3) := by decide +kernel
theorem dX8_squareDeterminant_52 : decode cX8_squareDeterminant 52 = .ok (.bipush 8, 2) := by decide +kernel
theorem dX8_squareDeterminant_54 : decode cX8_squareDeterminant 54 = .ok (.iaload, 1) := by decide +kernel
theorem dX8_squareDeterminant_55 : decode cX8_squareDeterminant 55 = .ok (.imul, 1) := by decide +kernel
theorem dX8_squareDeterminant_56 : decode cX8_squareDeterminant 56 = .ok (.aload_n 0, 1) := by decide +kernel
theorem dX8_squareDeterminant_57 : decode cX8_squareDeterminant 57 = .ok (.getfield 20, 3) := by decide +kernel
theorem dX8_squareDeterminant_60 : decode cX8_squareDeterminant 60 = .ok (.iconst 5, 1) := by decide +kernel
theorem dX8_squareDeterminant_61 : decode cX8_squareDeterminant 61 = .ok (.iaload, 1) := by decide +kernel
theorem dX8_squareDeterminant_62 : decode cX8_squareDeterminant 62 = .ok (.aload_n 0, 1) := by decide +kernel
theorem dX8_squareDeterminant_63 : decode cX8_squareDeterminant 63 = .ok (.getfield 20, 3) := by decide +kernel
theorem dX8_squareDeterminant_66 : decode cX8_squareDeterminant 66 = .ok (.bipush 6, 2) := by decide +kernel
theorem dX8_squareDeterminant_68 : decode cX8_squareDeterminant 68 = .ok (.iaload, 1) := by decide +kernel
theorem dX8_squareDeterminant_69 : decode cX8_squareDeterminant 69 = .ok (.imul, 1) := by decide +kernel
theorem dX8_squareDeterminant_70 : decode cX8_squareDeterminant 70 = .ok (.isub, 1) := by decide +kernel
theorem dX8_squareDeterminant_71 : decode cX8_squareDeterminant 71 = .ok (.imul, 1) := by decide +kernel
theorem dX8_squareDeterminant_72 : decode cX8_squareDeterminant 72 = .ok (.isub, 1) := by decide +kernel
theorem dX8_squareDeterminant_73 : decode cX8_squareDeterminant 73 = .ok (.aload_n 0, 1) := by decide +kernel
theorem dX8_squareDeterminant_74 : decode cX8_squareDeterminant 74 = .ok (.getfield 20, 3) := by decide +kernel
theorem dX8_squareDeterminant_77 : decode cX8_squareDeterminant 77 = .ok (.iconst 2, 1) := by decide +kernel
theorem dX8_squareDeterminant_78 : decode cX8_squareDeterminant 78 = .ok (.iaload, 1) := by decide +kernel
theorem dX8_squareDeterminant_79 : decode cX8_squareDeterminant 79 = .ok (.aload_n 0, 1) := by decide +kernel
theorem dX8_squareDeterminant_80 : decode cX8_squareDeterminant 80 = .ok (.getfield 20, 3) := by decide +kernel
theorem dX8_squareDeterminant_83 : decode cX8_squareDeterminant 83 = .ok (.iconst 3, 1) := by decide +kernel
theorem dX8_squareDeterminant_84 : decode cX8_squareDeterminant 84 = .ok (.iaload, 1) := by decide +kernel
theorem dX8_squareDeterminant_85 : decode cX8_squareDeterminant 85 = .ok (.aload_n 0, 1) := by decide +kernel
theorem dX8_squareDeterminant_86 : decode cX8_squareDeterminant 86 = .ok (.getfield 20, 3) := by decide +kernel
theorem dX8_squareDeterminant_89 : decode cX8_squareDeterminant 89 = .ok (.bipush 7, 2) := by decide +kernel
theorem dX8_squareDeterminant_91 : decode cX8_squareDeterminant 91 = .ok (.iaload, 1) := by decide +kernel
theorem dX8_squareDeterminant_92 : decode cX8_squareDeterminant 92 = .ok (.imul, 1) := by decide +kernel
theorem dX8_squareDeterminant_93 : decode cX8_squareDeterminant 93 = .ok (.aload_n 0, 1) := by decide +kernel
theorem dX8_squareDeterminant_94 : decode cX8_squareDeterminant 94 = .ok (.getfield 20, 3) := by decide +kernel
theorem dX8_squareDeterminant_97 : decode cX8_squareDeterminant 97 = .ok (.iconst 4, 1) := by decide +kernel
theorem dX8_squareDeterminant_98 : decode cX8_squareDeterminant 98 = .ok (.iaload, 1) := by decide +kernel
theorem dX8_squareDeterminant_99 : decode cX8_squareDeterminant 99 = .ok (.aload_n 0, 1) := by decide +kernel
theorem dX8_squareDeterminant_100 : decode cX8_squareDeterminant 100 = .ok (.getfield 20, 3) := by decide +kernel
theorem dX8_squareDeterminant_103 : decode cX8_squareDeterminant 103 = .ok (.bipush 6, 2) := by decide +kernel
theorem dX8_squareDeterminant_105 : decode cX8_squareDeterminant 105 = .ok (.iaload, 1) := by decide +kernel
theorem dX8_squareDeterminant_106 : decode cX8_squareDeterminant 106 = .ok (.imul, 1) := by decide +kernel
theorem dX8_squareDeterminant_107 : decode cX8_squareDeterminant 107 = .ok (.isub, 1) := by decide +kernel
theorem dX8_squareDeterminant_108 : decode cX8_squareDeterminant 108 = .ok (.imul, 1) := by decide +kernel
theorem dX8_squareDeterminant_109 : decode cX8_squareDeterminant 109 = .ok (.iadd, 1) := by decide +kernel
theorem dX8_squareDeterminant_110 : decode cX8_squareDeterminant 110 = .ok (.ireturn, 1) := by decide +kernel
theorem dX8_between_0 : decode cX8_between 0 = .ok (.iconst (-1), 1) := by decide +kernel
theorem dX8_between_1 : decode cX8_between 1 = .ok (.istore_n 3, 1) := by decide +kernel
theorem dX8_between_2 : decode cX8_between 2 = .ok (.iconst (-1), 1) := by decide +kernel
theorem dX8_between_3 : decode cX8_between 3 = .ok (.istore 4, 2) := by decide +kernel
theorem dX8_between_5 : decode cX8_between 5 = .ok (.iconst 0, 1) := by decide +kernel
theorem dX8_between_6 : decode cX8_between 6 = .ok (.istore 5, 2) := by decide +kernel
theorem dX8_between_8 : decode cX8_between 8 = .ok (.iload 5, 2) := by decide +kernel
theorem dX8_between_10 : decode cX8_between 10 = .ok (.aload_n 0, 1) := by decide +kernel
theorem dX8_between_11 : decode cX8_between 11 = .ok (.getfield 24, 3) := by decide +kernel
theorem dX8_between_14 : decode cX8_between 14 = .ok (.getfield 64, 3) := by decide +kernel
theorem dX8_between_17 : decode cX8_between 17 = .ok (.if_icmp .ge 80, 3) := by decide +kernel
theorem dX8_between_20 : decode cX8_between 20 = .ok (.aload_n 0, 1) := by decide +kernel
theorem dX8_between_21 : decode cX8_between 21 = .ok (.getfield 24, 3) := by decide +kernel
theorem dX8_between_24 : decode cX8_between 24 = .ok (.iload 5, 2) := by decide +kernel
theorem dX8_between_26 : decode cX8_between 26 = .ok (.iconst 0, 1) := by decide +kernel
theorem dX8_between_27 : decode cX8_between 27 = .ok (.invokevirtual 68, 3) := by decide +kernel
theorem dX8_between_30 : decode cX8_between 30 = .ok (.istore 6, 2) := by decide +kernel
theorem dX8_between_32 : decode cX8_between 32 = .ok (.iload 6, 2) := by decide +kernel
theorem dX8_between_34 : decode cX8_between 34 = .ok (.iload_n 1, 1) := by decide +kernel
theorem dX8_between_35 : decode cX8_between 35 = .ok (.if_icmp .gt 25, 3) := by decide +kernel
theorem dX8_between_38 : decode cX8_between 38 = .ok (.iload_n 3, 1) := by decide +kernel
theorem dX8_between_39 : decode cX8_between 39 = .ok (.iconst (-1), 1) := by decide +kernel
theorem dX8_between_40 : decode cX8_between 40 = .ok (.if_icmp .eq 17, 3) := by decide +kernel
theorem dX8_between_43 : decode cX8_between 43 = .ok (.iload 6, 2) := by decide +kernel
theorem dX8_between_45 : decode cX8_between 45 = .ok (.aload_n 0, 1) := by decide +kernel
theorem dX8_between_46 : decode cX8_between 46 = .ok (.getfield 24, 3) := by decide +kernel
theorem dX8_between_49 : decode cX8_between 49 = .ok (.iload_n 3, 1) := by decide +kernel
theorem dX8_between_50 : decode cX8_between 50 = .ok (.iconst 0, 1) := by decide +kernel
theorem dX8_between_51 : decode cX8_between 51 = .ok (.invokevirtual 68, 3) := by decide +kernel
theorem dX8_between_54 : decode cX8_between 54 = .ok (.if_icmp .le 6, 3) := by decide +kernel
theorem dX8_between_57 : decode cX8_between 57 = .ok (.iload 5, 2) := by decide +kernel
theorem dX8_between_59 : decode cX8_between 59 = .ok (.istore_n 3, 1) := by decide +kernel
theorem dX8_between_60 : decode cX8_between 60 = .ok (.iload 6, 2) := by decide +kernel
theorem dX8_between_62 : decode cX8_between 62 = .ok (.iload_n 1, 1) := by decide +kernel
theorem dX8_between_63 : decode cX8_between 63 = .ok (.if_icmp .lt 28, 3) := by decide +kernel
theorem dX8_between_66 : decode cX8_between 66 = .ok (.iload 4, 2) := by decide +kernel
theorem dX8_between_68 : decode cX8_between 68 = .ok (.iconst (-1), 1) := by decide +kernel
theorem dX8_between_69 : decode cX8_between 69 = .ok (.if_icmp .eq 18, 3) := by decide +kernel
theorem dX8_between_72 : decode cX8_between 72 = .ok (.iload 6, 2) := by decide +kernel
theorem dX8_between_74 : decode cX8_between 74 = .ok (.aload_n 0, 1) := by decide +kernel
theorem dX8_between_75 : decode cX8_between 75 = .ok (.getfield 24, 3) := by decide +kernel
theorem dX8_between_78 : decode cX8_between 78 = .ok (.iload 4, 2) := by decide +kernel
theorem dX8_between_80 : decode cX8_between 80 = .ok (.iconst 0, 1) := by decide +kernel
theorem dX8_between_81 : decode cX8_between 81 = .ok (.invokevirtual 68, 3) := by decide +kernel
theorem dX8_between_84 : decode cX8_between 84 = .ok (.if_icmp .ge 7, 3) := by decide +kernel
theorem dX8_between_87 : decode cX8_between 87 = .ok (.iload 5, 2) := by decide +kernel
theorem dX8_between_89 : decode cX8_between 89 = .ok (.istore 4, 2) := by decide +kernel
theorem dX8_between_91 : decode cX8_between 91 = .ok (.iinc 5 1, 3) := by decide +kernel
theorem dX8_between_94 : decode cX8_between 94 = .ok (.goto (-86), 3) := by decide +kernel
theorem dX8_between_97 : decode cX8_between 97 = .ok (.iload_n 3, 1) := by decide +kernel
theorem dX8_between_98 : decode cX8_between 98 = .ok (.iconst (-1), 1) := by decide +kernel
theorem dX8_between_99 : decode cX8_between 99 = .ok (.if_icmp .eq 9, 3) := by decide +kernel
theorem dX8_between_102 : decode cX8_between 102 = .ok (.iload 4, 2) := by decide +kernel
theorem dX8_between_104 : decode cX8_between 104 = .ok (.iconst (-1), 1) := by decide +kernel
theorem dX8_between_105 : decode cX8_between 105 = .ok (.if_icmp .ne 5, 3) := by decide +kernel
theorem dX8_between_108 : decode cX8_between 108 = .ok (.iconst 0, 1) := by decide +kernel
theorem dX8_between_109 : decode cX8_between 109 = .ok (.ireturn, 1) := by decide +kernel
theorem dX8_between_110 : decode cX8_between 110 = .ok (.aload_n 0, 1) := by decide +kernel
theorem dX8_between_111 : decode cX8_between 111 = .ok (.getfield 24, 3) := by decide +kernel
theorem dX8_between_114 : decode cX8_between 114 = .ok (.iload_n 3, 1) := by decide +kernel
theorem dX8_between_115 : decode cX8_between 115 = .ok (.iconst 1, 1) := by decide +kernel
theorem dX8_between_116 : decode cX8_between 116 = .ok (.invokevirtual 68, 3) := by decide +kernel
theorem dX8_between_119 : decode cX8_between 119 = .ok (.istore 5, 2) := by decide +kernel
theorem dX8_between_121 : decode cX8_between 121 = .ok (.iload_n 3, 1) := by decide +kernel
theorem dX8_between_122 : decode cX8_between 122 = .ok (.iload 4, 2) := by decide +kernel
theorem dX8_between_124 : decode cX8_between 124 = .ok (.if_icmp .ne 14, 3) := by decide +kernel
theorem dX8_between_127 : decode cX8_between 127 = .ok (.iload_n 2, 1) := by decide +kernel
theorem dX8_between_128 : decode cX8_between 128 = .ok (.ifCond .eq 8, 3) := by decide +kernel
theorem dX8_between_131 : decode cX8_between 131 = .ok (.iload 5, 2) := by decide +kernel
theorem dX8_between_133 : decode cX8_between 133 = .ok (.goto 4, 3) := by decide +kernel
theorem dX8_between_136 : decode cX8_between 136 = .ok (.iconst 1, 1) := by decide +kernel
theorem dX8_between_137 : decode cX8_between 137 = .ok (.ireturn, 1) := by decide +kernel
theorem dX8_between_138 : decode cX8_between 138 = .ok (.aload_n 0, 1) := by decide +kernel
theorem dX8_between_139 : decode cX8_between 139 = .ok (.getfield 24, 3) := by decide +kernel
theorem dX8_between_142 : decode cX8_between 142 = .ok (.iload 4, 2) := by decide +kernel
theorem dX8_between_144 : decode cX8_between 144 = .ok (.iconst 0, 1) := by decide +kernel
theorem dX8_between_145 : decode cX8_between 145 = .ok (.invokevirtual 68, 3) := by decide +kernel
theorem dX8_between_148 : decode cX8_between 148 = .ok (.aload_n 0, 1) := by decide +kernel
theorem dX8_between_149 : decode cX8_between 149 = .ok (.getfield 24, 3) := by decide +kernel
theorem dX8_between_152 : decode cX8_between 152 = .ok (.iload_n 3, 1) := by decide +kernel
theorem dX8_between_153 : decode cX8_between 153 = .ok (.iconst 0, 1) := by decide +kernel
theorem dX8_between_154 : decode cX8_between 154 = .ok (.invokevirtual 68, 3) := by decide +kernel
theorem dX8_between_157 : decode cX8_between 157 = .ok (.isub, 1) := by decide +kernel
theorem dX8_between_158 : decode cX8_between 158 = .ok (.istore 6, 2) := by decide +kernel
theorem dX8_between_160 : decode cX8_between 160 = .ok (.iload 5, 2) := by decide +kernel
theorem dX8_between_162 : decode cX8_between 162 = .ok (.iload 6, 2) := by decide +kernel
theorem dX8_between_164 : decode cX8_between 164 = .ok (.imul, 1) := by decide +kernel
theorem dX8_between_165 : decode cX8_between 165 = .ok (.aload_n 0, 1) := by decide +kernel
theorem dX8_between_166 : decode cX8_between 166 = .ok (.getfield 24, 3) := by decide +kernel
theorem dX8_between_169 : decode cX8_between 169 = .ok (.iload 4, 2) := by decide +kernel
theorem dX8_between_171 : decode cX8_between 171 = .ok (.iconst 1, 1) := by decide +kernel
theorem dX8_between_172 : decode cX8_between 172 = .ok (.invokevirtual 68, 3) := by decide +kernel
theorem dX8_between_175 : decode cX8_between 175 = .ok (.iload 5, 2) := by decide +kernel
theorem dX8_between_177 : decode cX8_between 177 = .ok (.isub, 1) := by decide +kernel
theorem dX8_between_178 : decode cX8_between 178 = .ok (.iload_n 1, 1) := by decide +kernel
theorem dX8_between_179 : decode cX8_between 179 = .ok (.aload_n 0, 1) := by decide +kernel
theorem dX8_between_180 : decode cX8_between 180 = .ok (.getfield 24, 3) := by decide +kernel
theorem dX8_between_183 : decode cX8_between 183 = .ok (.iload_n 3, 1) := by decide +kernel
theorem dX8_between_184 : decode cX8_between 184 = .ok (.iconst 0, 1) := by decide +kernel
theorem dX8_between_185 : decode cX8_between 185 = .ok (.invokevirtual 68, 3) := by decide +kernel
theorem dX8_between_188 : decode cX8_between 188 = .ok (.isub, 1) := by decide +kernel
theorem dX8_between_189 : decode cX8_between 189 = .ok (.imul, 1) := by decide +kernel
theorem dX8_between_190 : decode cX8_between 190 = .ok (.iadd, 1) := by decide +kernel
theorem dX8_between_191 : decode cX8_between 191 = .ok (.istore 7, 2) := by decide +kernel
theorem dX8_between_193 : decode cX8_between 193 = .ok (.iload 7, 2) := by decide +kernel
theorem dX8_between_195 : decode cX8_between 195 = .ok (.invokestatic 76, 3) := by decide +kernel
theorem dX8_between_198 : decode cX8_between 198 = .ok (.iload 6, 2) := by decide +kernel
theorem dX8_between_200 : decode cX8_between 200 = .ok (.invokestatic 82, 3) := by decide +kernel
theorem dX8_between_203 : decode cX8_between 203 = .ok (.istore 8, 2) := by decide +kernel
theorem dX8_between_205 : decode cX8_between 205 = .ok (.iload 8, 2) := by decide +kernel
theorem dX8_between_207 : decode cX8_between 207 = .ok (.ifCond .ne 5, 3) := by decide +kernel
theorem dX8_between_210 : decode cX8_between 210 = .ok (.iconst 0, 1) := by decide +kernel
theorem dX8_between_211 : decode cX8_between 211 = .ok (.ireturn, 1) := by decide +kernel
theorem dX8_between_212 : decode cX8_between 212 = .ok (.iload_n 2, 1) := by decide +kernel
theorem dX8_between_213 : decode cX8_between 213 = .ok (.ifCond .eq 11, 3) := by decide +kernel
theorem dX8_between_216 : decode cX8_between 216 = .ok (.iload 7, 2) := by decide +kernel
theorem dX8_between_218 : decode cX8_between 218 = .ok (.iload 8, 2) := by decide +kernel
theorem dX8_between_220 : decode cX8_between 220 = .ok (.idiv, 1) := by decide +kernel
theorem dX8_between_221 : decode cX8_between 221 = .ok (.goto 8, 3) := by decide +kernel
theorem dX8_between_224 : decode cX8_between 224 = .ok (.iload 6, 2) := by decide +kernel
theorem dX8_between_226 : decode cX8_between 226 = .ok (.iload 8, 2) := by decide +kernel
theorem dX8_between_228 : decode cX8_between 228 = .ok (.idiv, 1) := by decide +kernel
theorem dX8_between_229 : decode cX8_between 229 = .ok (.ireturn, 1) := by decide +kernel
theorem dX8_hasStringAt_0 : decode cX8_hasStringAt 0 = .ok (.aload_n 0, 1) := by decide +kernel
theorem dX8_hasStringAt_1 : decode cX8_hasStringAt 1 = .ok (.getfield 27, 3) := by decide +kernel
theorem dX8_hasStringAt_4 : decode cX8_hasStringAt 4 = .ok (.iconst 0, 1) := by decide +kernel
theorem dX8_hasStringAt_5 : decode cX8_hasStringAt 5 = .ok (.iload_n 1, 1) := by decide +kernel
theorem dX8_hasStringAt_6 : decode cX8_hasStringAt 6 = .ok (.invokevirtual 87, 3) := by decide +kernel
theorem dX8_hasStringAt_9 : decode cX8_hasStringAt 9 = .ok (.iconst (-1), 1) := by decide +kernel
theorem dX8_hasStringAt_10 : decode cX8_hasStringAt 10 = .ok (.if_icmp .ne 16, 3) := by decide +kernel
theorem dX8_hasStringAt_13 : decode cX8_hasStringAt 13 = .ok (.aload_n 0, 1) := by decide +kernel
theorem dX8_hasStringAt_14 : decode cX8_hasStringAt 14 = .ok (.getfield 27, 3) := by decide +kernel
theorem dX8_hasStringAt_17 : decode cX8_hasStringAt 17 = .ok (.iconst 1, 1) := by decide +kernel
theorem dX8_hasStringAt_18 : decode cX8_hasStringAt 18 = .ok (.iload_n 1, 1) := by decide +kernel
theorem dX8_hasStringAt_19 : decode cX8_hasStringAt 19 = .ok (.invokevirtual 87, 3) := by decide +kernel
theorem dX8_hasStringAt_22 : decode cX8_hasStringAt 22 = .ok (.iconst (-1), 1) := by decide +kernel
theorem dX8_hasStringAt_23 : decode cX8_hasStringAt 23 = .ok (.if_icmp .eq 7, 3) := by decide +kernel
theorem dX8_hasStringAt_26 : decode cX8_hasStringAt 26 = .ok (.iconst 1, 1) := by decide +kernel
theorem dX8_hasStringAt_27 : decode cX8_hasStringAt 27 = .ok (.goto 4, 3) := by decide +kernel
theorem dX8_hasStringAt_30 : decode cX8_hasStringAt 30 = .ok (.iconst 0, 1) := by decide +kernel
theorem dX8_hasStringAt_31 : decode cX8_hasStringAt 31 = .ok (.ireturn, 1) := by decide +kernel
theorem dX8_crossings_0 : decode cX8_crossings 0 = .ok (.iconst 0, 1) := by decide +kernel
theorem dX8_crossings_1 : decode cX8_crossings 1 = .ok (.istore_n 1, 1) := by decide +kernel
theorem dX8_crossings_2 : decode cX8_crossings 2 = .ok (.iconst 0, 1) := by decide +kernel
theorem dX8_crossings_3 : decode cX8_crossings 3 = .ok (.istore_n 2, 1) := by decide +kernel
theorem dX8_crossings_4 : decode cX8_crossings 4 = .ok (.iload_n 2, 1) := by decide +kernel
theorem dX8_crossings_5 : decode cX8_crossings 5 = .ok (.aload_n 0, 1) := by decide +kernel
theorem dX8_crossings_6 : decode cX8_crossings 6 = .ok (.getfield 27, 3) := by decide +kernel
theorem dX8_crossings_9 : decode cX8_crossings 9 = .ok (.getfield 64, 3) := by decide +kernel
theorem dX8_crossings_12 : decode cX8_crossings 12 = .ok (.if_icmp .ge 23, 3) := by decide +kernel
theorem dX8_crossings_15 : decode cX8_crossings 15 = .ok (.iload_n 1, 1) := by decide +kernel
theorem dX8_crossings_16 : decode cX8_crossings 16 = .ok (.aload_n 0, 1) := by decide +kernel
theorem dX8_crossings_17 : decode cX8_crossings 17 = .ok (.getfield 27, 3) := by decide +kernel
theorem dX8_crossings_20 : decode cX8_crossings 20 = .ok (.iload_n 2, 1) := by decide +kernel
theorem dX8_crossings_21 : decode cX8_crossings 21 = .ok (.invokestatic 90, 3) := by decide +kernel
theorem dX8_crossings_24 : decode cX8_crossings 24 = .ok (.invokestatic 94, 3) := by decide +kernel
theorem dX8_crossings_27 : decode cX8_crossings 27 = .ok (.iadd, 1) := by decide +kernel
theorem dX8_crossings_28 : decode cX8_crossings 28 = .ok (.istore_n 1, 1) := by decide +kernel
theorem dX8_crossings_29 : decode cX8_crossings 29 = .ok (.iinc 2 1, 3) := by decide +kernel
theorem dX8_crossings_32 : decode cX8_crossings 32 = .ok (.goto (-28), 3) := by decide +kernel
theorem dX8_crossings_35 : decode cX8_crossings 35 = .ok (.iload_n 1, 1) := by decide +kernel
theorem dX8_crossings_36 : decode cX8_crossings 36 = .ok (.iconst 2, 1) := by decide +kernel
theorem dX8_crossings_37 : decode cX8_crossings 37 = .ok (.idiv, 1) := by decide +kernel
theorem dX8_crossings_38 : decode cX8_crossings 38 = .ok (.ireturn, 1) := by decide +kernel
theorem dX8_crossedBy_0 : decode cX8_crossedBy 0 = .ok (.aload_n 0, 1) := by decide +kernel
theorem dX8_crossedBy_1 : decode cX8_crossedBy 1 = .ok (.iload_n 1, 1) := by decide +kernel
theorem dX8_crossedBy_2 : decode cX8_crossedBy 2 = .ok (.iconst 0, 1) := by decide +kernel
