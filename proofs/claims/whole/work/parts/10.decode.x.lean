theorem d_jMath_floorDiv_0 : decode prog_15_method_49_code 0 = .ok (.lload_n 0, 1) := by decide +kernel
theorem d_jMath_floorDiv_1 : decode prog_15_method_49_code 1 = .ok (.lload_n 2, 1) := by decide +kernel
theorem d_jMath_floorDiv_2 : decode prog_15_method_49_code 2 = .ok (.ldiv, 1) := by decide +kernel
theorem d_jMath_floorDiv_3 : decode prog_15_method_49_code 3 = .ok (.lstore 4, 2) := by decide +kernel
theorem d_jMath_floorDiv_5 : decode prog_15_method_49_code 5 = .ok (.lload_n 0, 1) := by decide +kernel
theorem d_jMath_floorDiv_6 : decode prog_15_method_49_code 6 = .ok (.lload_n 2, 1) := by decide +kernel
theorem d_jMath_floorDiv_7 : decode prog_15_method_49_code 7 = .ok (.lxor, 1) := by decide +kernel
theorem d_jMath_floorDiv_8 : decode prog_15_method_49_code 8 = .ok (.lconst 0, 1) := by decide +kernel
theorem d_jMath_floorDiv_9 : decode prog_15_method_49_code 9 = .ok (.lcmp, 1) := by decide +kernel
theorem d_jMath_floorDiv_10 : decode prog_15_method_49_code 10 = .ok (.ifCond .ge 17, 3) := by decide +kernel
theorem d_jMath_floorDiv_13 : decode prog_15_method_49_code 13 = .ok (.lload 4, 2) := by decide +kernel
theorem d_jMath_floorDiv_15 : decode prog_15_method_49_code 15 = .ok (.lload_n 2, 1) := by decide +kernel
theorem d_jMath_floorDiv_16 : decode prog_15_method_49_code 16 = .ok (.lmul, 1) := by decide +kernel
theorem d_jMath_floorDiv_17 : decode prog_15_method_49_code 17 = .ok (.lload_n 0, 1) := by decide +kernel
theorem d_jMath_floorDiv_18 : decode prog_15_method_49_code 18 = .ok (.lcmp, 1) := by decide +kernel
theorem d_jMath_floorDiv_19 : decode prog_15_method_49_code 19 = .ok (.ifCond .eq 8, 3) := by decide +kernel
theorem d_jMath_floorDiv_22 : decode prog_15_method_49_code 22 = .ok (.lload 4, 2) := by decide +kernel
theorem d_jMath_floorDiv_24 : decode prog_15_method_49_code 24 = .ok (.lconst 1, 1) := by decide +kernel
theorem d_jMath_floorDiv_25 : decode prog_15_method_49_code 25 = .ok (.lsub, 1) := by decide +kernel
theorem d_jMath_floorDiv_26 : decode prog_15_method_49_code 26 = .ok (.lreturn, 1) := by decide +kernel
theorem d_jMath_floorDiv_27 : decode prog_15_method_49_code 27 = .ok (.lload 4, 2) := by decide +kernel
theorem d_jMath_floorDiv_29 : decode prog_15_method_49_code 29 = .ok (.lreturn, 1) := by decide +kernel
theorem d_jArrays_fillJ_0 : decode prog_20_method_101_code 0 = .ok (.iconst 0, 1) := by decide +kernel
theorem d_jArrays_fillJ_1 : decode prog_20_method_101_code 1 = .ok (.istore_n 3, 1) := by decide +kernel
theorem d_jArrays_fillJ_2 : decode prog_20_method_101_code 2 = .ok (.aload_n 0, 1) := by decide +kernel
theorem d_jArrays_fillJ_3 : decode prog_20_method_101_code 3 = .ok (.arraylength, 1) := by decide +kernel
theorem d_jArrays_fillJ_4 : decode prog_20_method_101_code 4 = .ok (.istore 4, 2) := by decide +kernel
theorem d_jArrays_fillJ_6 : decode prog_20_method_101_code 6 = .ok (.iload_n 3, 1) := by decide +kernel
theorem d_jArrays_fillJ_7 : decode prog_20_method_101_code 7 = .ok (.iload 4, 2) := by decide +kernel
theorem d_jArrays_fillJ_9 : decode prog_20_method_101_code 9 = .ok (.if_icmp .ge 13, 3) := by decide +kernel
theorem d_jArrays_fillJ_12 : decode prog_20_method_101_code 12 = .ok (.aload_n 0, 1) := by decide +kernel
theorem d_jArrays_fillJ_13 : decode prog_20_method_101_code 13 = .ok (.iload_n 3, 1) := by decide +kernel
theorem d_jArrays_fillJ_14 : decode prog_20_method_101_code 14 = .ok (.lload_n 1, 1) := by decide +kernel
theorem d_jArrays_fillJ_15 : decode prog_20_method_101_code 15 = .ok (.lastore, 1) := by decide +kernel
theorem d_jArrays_fillJ_16 : decode prog_20_method_101_code 16 = .ok (.iinc 3 1, 3) := by decide +kernel
theorem d_jArrays_fillJ_19 : decode prog_20_method_101_code 19 = .ok (.goto (-13), 3) := by decide +kernel
theorem d_jArrays_fillJ_22 : decode prog_20_method_101_code 22 = .ok (.return_, 1) := by decide +kernel
theorem d_jArrays_fillI_0 : decode prog_20_method_103_code 0 = .ok (.iconst 0, 1) := by decide +kernel
theorem d_jArrays_fillI_1 : decode prog_20_method_103_code 1 = .ok (.istore_n 2, 1) := by decide +kernel
theorem d_jArrays_fillI_2 : decode prog_20_method_103_code 2 = .ok (.aload_n 0, 1) := by decide +kernel
theorem d_jArrays_fillI_3 : decode prog_20_method_103_code 3 = .ok (.arraylength, 1) := by decide +kernel
theorem d_jArrays_fillI_4 : decode prog_20_method_103_code 4 = .ok (.istore_n 3, 1) := by decide +kernel
theorem d_jArrays_fillI_5 : decode prog_20_method_103_code 5 = .ok (.iload_n 2, 1) := by decide +kernel
theorem d_jArrays_fillI_6 : decode prog_20_method_103_code 6 = .ok (.iload_n 3, 1) := by decide +kernel
theorem d_jArrays_fillI_7 : decode prog_20_method_103_code 7 = .ok (.if_icmp .ge 13, 3) := by decide +kernel
theorem d_jArrays_fillI_10 : decode prog_20_method_103_code 10 = .ok (.aload_n 0, 1) := by decide +kernel
theorem d_jArrays_fillI_11 : decode prog_20_method_103_code 11 = .ok (.iload_n 2, 1) := by decide +kernel
theorem d_jArrays_fillI_12 : decode prog_20_method_103_code 12 = .ok (.iload_n 1, 1) := by decide +kernel
theorem d_jArrays_fillI_13 : decode prog_20_method_103_code 13 = .ok (.iastore, 1) := by decide +kernel
theorem d_jArrays_fillI_14 : decode prog_20_method_103_code 14 = .ok (.iinc 2 1, 3) := by decide +kernel
theorem d_jArrays_fillI_17 : decode prog_20_method_103_code 17 = .ok (.goto (-12), 3) := by decide +kernel
theorem d_jArrays_fillI_20 : decode prog_20_method_103_code 20 = .ok (.return_, 1) := by decide +kernel
theorem d_xP_covered_0 : decode prog_1_method_13_code 0 = .ok (.iload_n 1, 1) := by decide +kernel
theorem d_xP_covered_1 : decode prog_1_method_13_code 1 = .ok (.ifCond .lt 29, 3) := by decide +kernel
theorem d_xP_covered_4 : decode prog_1_method_13_code 4 = .ok (.iload_n 1, 1) := by decide +kernel
theorem d_xP_covered_5 : decode prog_1_method_13_code 5 = .ok (.aload_n 0, 1) := by decide +kernel
theorem d_xP_covered_6 : decode prog_1_method_13_code 6 = .ok (.getfield 33, 3) := by decide +kernel
theorem d_xP_covered_9 : decode prog_1_method_13_code 9 = .ok (.getfield 126, 3) := by decide +kernel
theorem d_xP_covered_12 : decode prog_1_method_13_code 12 = .ok (.if_icmp .ge 18, 3) := by decide +kernel
theorem d_xP_covered_15 : decode prog_1_method_13_code 15 = .ok (.iload_n 2, 1) := by decide +kernel
theorem d_xP_covered_16 : decode prog_1_method_13_code 16 = .ok (.ifCond .lt 14, 3) := by decide +kernel
theorem d_xP_covered_19 : decode prog_1_method_13_code 19 = .ok (.iload_n 2, 1) := by decide +kernel
theorem d_xP_covered_20 : decode prog_1_method_13_code 20 = .ok (.aload_n 0, 1) := by decide +kernel
theorem d_xP_covered_21 : decode prog_1_method_13_code 21 = .ok (.getfield 33, 3) := by decide +kernel
theorem d_xP_covered_24 : decode prog_1_method_13_code 24 = .ok (.getfield 129, 3) := by decide +kernel
theorem d_xP_covered_27 : decode prog_1_method_13_code 27 = .ok (.if_icmp .lt 13, 3) := by decide +kernel
theorem d_xP_covered_30 : decode prog_1_method_13_code 30 = .ok (.new 89, 3) := by decide +kernel
theorem d_xP_covered_33 : decode prog_1_method_13_code 33 = .ok (.dup, 1) := by decide +kernel
theorem d_xP_covered_34 : decode prog_1_method_13_code 34 = .ok (.ldc 132, 2) := by decide +kernel
theorem d_xP_covered_36 : decode prog_1_method_13_code 36 = .ok (.invokespecial 93, 3) := by decide +kernel
theorem d_xP_covered_39 : decode prog_1_method_13_code 39 = .ok (.athrow, 1) := by decide +kernel
theorem d_xP_covered_40 : decode prog_1_method_13_code 40 = .ok (.aload_n 0, 1) := by decide +kernel
theorem d_xP_covered_41 : decode prog_1_method_13_code 41 = .ok (.getfield 33, 3) := by decide +kernel
theorem d_xP_covered_44 : decode prog_1_method_13_code 44 = .ok (.getfield 134, 3) := by decide +kernel
theorem d_xP_covered_47 : decode prog_1_method_13_code 47 = .ok (.iload_n 2, 1) := by decide +kernel
theorem d_xP_covered_48 : decode prog_1_method_13_code 48 = .ok (.bipush 8, 2) := by decide +kernel
theorem d_xP_covered_50 : decode prog_1_method_13_code 50 = .ok (.imul, 1) := by decide +kernel
theorem d_xP_covered_51 : decode prog_1_method_13_code 51 = .ok (.iload_n 1, 1) := by decide +kernel
theorem d_xP_covered_52 : decode prog_1_method_13_code 52 = .ok (.iadd, 1) := by decide +kernel
theorem d_xP_covered_53 : decode prog_1_method_13_code 53 = .ok (.iaload, 1) := by decide +kernel
theorem d_xP_covered_54 : decode prog_1_method_13_code 54 = .ok (.ireturn, 1) := by decide +kernel
theorem d_xP_clear_0 : decode prog_1_method_16_code 0 = .ok (.aload_n 0, 1) := by decide +kernel
theorem d_xP_clear_1 : decode prog_1_method_16_code 1 = .ok (.getfield 14, 3) := by decide +kernel
theorem d_xP_clear_4 : decode prog_1_method_16_code 4 = .ok (.iconst 0, 1) := by decide +kernel
theorem d_xP_clear_5 : decode prog_1_method_16_code 5 = .ok (.putfield 62, 3) := by decide +kernel
theorem d_xP_clear_8 : decode prog_1_method_16_code 8 = .ok (.aload_n 0, 1) := by decide +kernel
theorem d_xP_clear_9 : decode prog_1_method_16_code 9 = .ok (.getfield 18, 3) := by decide +kernel
theorem d_xP_clear_12 : decode prog_1_method_16_code 12 = .ok (.iconst 0, 1) := by decide +kernel
theorem d_xP_clear_13 : decode prog_1_method_16_code 13 = .ok (.putfield 62, 3) := by decide +kernel
theorem d_xP_clear_16 : decode prog_1_method_16_code 16 = .ok (.aload_n 0, 1) := by decide +kernel
theorem d_xP_clear_17 : decode prog_1_method_16_code 17 = .ok (.getfield 44, 3) := by decide +kernel
theorem d_xP_clear_20 : decode prog_1_method_16_code 20 = .ok (.iconst 0, 1) := by decide +kernel
theorem d_xP_clear_21 : decode prog_1_method_16_code 21 = .ok (.putfield 78, 3) := by decide +kernel
theorem d_xP_clear_24 : decode prog_1_method_16_code 24 = .ok (.aload_n 0, 1) := by decide +kernel
theorem d_xP_clear_25 : decode prog_1_method_16_code 25 = .ok (.getfield 33, 3) := by decide +kernel
theorem d_xP_clear_28 : decode prog_1_method_16_code 28 = .ok (.iconst 0, 1) := by decide +kernel
theorem d_xP_clear_29 : decode prog_1_method_16_code 29 = .ok (.putfield 126, 3) := by decide +kernel
theorem d_xP_clear_32 : decode prog_1_method_16_code 32 = .ok (.aload_n 0, 1) := by decide +kernel
theorem d_xP_clear_33 : decode prog_1_method_16_code 33 = .ok (.getfield 33, 3) := by decide +kernel
theorem d_xP_clear_36 : decode prog_1_method_16_code 36 = .ok (.iconst 0, 1) := by decide +kernel
theorem d_xP_clear_37 : decode prog_1_method_16_code 37 = .ok (.putfield 129, 3) := by decide +kernel
theorem d_xP_clear_40 : decode prog_1_method_16_code 40 = .ok (.return_, 1) := by decide +kernel
theorem d_xP_byteOf_0 : decode prog_1_method_18_code 0 = .ok (.lload_n 0, 1) := by decide +kernel
theorem d_xP_byteOf_1 : decode prog_1_method_18_code 1 = .ok (.bipush 8, 2) := by decide +kernel
theorem d_xP_byteOf_3 : decode prog_1_method_18_code 3 = .ok (.iload_n 2, 1) := by decide +kernel
theorem d_xP_byteOf_4 : decode prog_1_method_18_code 4 = .ok (.imul, 1) := by decide +kernel
theorem d_xP_byteOf_5 : decode prog_1_method_18_code 5 = .ok (.lushr, 1) := by decide +kernel
theorem d_xP_byteOf_6 : decode prog_1_method_18_code 6 = .ok (.l2i, 1) := by decide +kernel
theorem d_xP_byteOf_7 : decode prog_1_method_18_code 7 = .ok (.sipush 255, 3) := by decide +kernel
theorem d_xP_byteOf_10 : decode prog_1_method_18_code 10 = .ok (.iand, 1) := by decide +kernel
theorem d_xP_byteOf_11 : decode prog_1_method_18_code 11 = .ok (.ireturn, 1) := by decide +kernel
theorem d_xP_numbersOf_0 : decode prog_1_method_19_code 0 = .ok (.iload_n 0, 1) := by decide +kernel
theorem d_xP_numbersOf_1 : decode prog_1_method_19_code 1 = .ok (.tableswitch 32 0 2 #[27, 27, 29], 27) := by decide +kernel
theorem d_xP_numbersOf_28 : decode prog_1_method_19_code 28 = .ok (.iconst 2, 1) := by decide +kernel
theorem d_xP_numbersOf_29 : decode prog_1_method_19_code 29 = .ok (.ireturn, 1) := by decide +kernel
theorem d_xP_numbersOf_30 : decode prog_1_method_19_code 30 = .ok (.bipush 6, 2) := by decide +kernel
theorem d_xP_numbersOf_32 : decode prog_1_method_19_code 32 = .ok (.ireturn, 1) := by decide +kernel
theorem d_xP_numbersOf_33 : decode prog_1_method_19_code 33 = .ok (.iconst 0, 1) := by decide +kernel
theorem d_xP_numbersOf_34 : decode prog_1_method_19_code 34 = .ok (.ireturn, 1) := by decide +kernel
theorem d_xP_isNumber_0 : decode prog_1_method_20_code 0 = .ok (.lload_n 0, 1) := by decide +kernel
theorem d_xP_isNumber_1 : decode prog_1_method_20_code 1 = .ok (.ldc2_w 162, 3) := by decide +kernel
theorem d_xP_isNumber_4 : decode prog_1_method_20_code 4 = .ok (.lcmp, 1) := by decide +kernel
theorem d_xP_isNumber_5 : decode prog_1_method_20_code 5 = .ok (.ifCond .lt 15, 3) := by decide +kernel
theorem d_xP_isNumber_8 : decode prog_1_method_20_code 8 = .ok (.lload_n 0, 1) := by decide +kernel
theorem d_xP_isNumber_9 : decode prog_1_method_20_code 9 = .ok (.ldc2_w 164, 3) := by decide +kernel
theorem d_xP_isNumber_12 : decode prog_1_method_20_code 12 = .ok (.lcmp, 1) := by decide +kernel
theorem d_xP_isNumber_13 : decode prog_1_method_20_code 13 = .ok (.ifCond .gt 7, 3) := by decide +kernel
theorem d_xP_isNumber_16 : decode prog_1_method_20_code 16 = .ok (.iconst 1, 1) := by decide +kernel
theorem d_xP_isNumber_17 : decode prog_1_method_20_code 17 = .ok (.goto 4, 3) := by decide +kernel
theorem d_xP_isNumber_20 : decode prog_1_method_20_code 20 = .ok (.iconst 0, 1) := by decide +kernel
theorem d_xP_isNumber_21 : decode prog_1_method_20_code 21 = .ok (.ireturn, 1) := by decide +kernel
theorem d_xP_areNumbers_0 : decode prog_1_method_21_code 0 = .ok (.iconst 0, 1) := by decide +kernel
theorem d_xP_areNumbers_1 : decode prog_1_method_21_code 1 = .ok (.istore_n 2, 1) := by decide +kernel
theorem d_xP_areNumbers_2 : decode prog_1_method_21_code 2 = .ok (.iload_n 2, 1) := by decide +kernel
theorem d_xP_areNumbers_3 : decode prog_1_method_21_code 3 = .ok (.iload_n 1, 1) := by decide +kernel
theorem d_xP_areNumbers_4 : decode prog_1_method_21_code 4 = .ok (.if_icmp .ge 26, 3) := by decide +kernel
theorem d_xP_areNumbers_7 : decode prog_1_method_21_code 7 = .ok (.iload_n 2, 1) := by decide +kernel
theorem d_xP_areNumbers_8 : decode prog_1_method_21_code 8 = .ok (.aload_n 0, 1) := by decide +kernel
theorem d_xP_areNumbers_9 : decode prog_1_method_21_code 9 = .ok (.arraylength, 1) := by decide +kernel
theorem d_xP_areNumbers_10 : decode prog_1_method_21_code 10 = .ok (.if_icmp .ge 20, 3) := by decide +kernel
theorem d_xP_areNumbers_13 : decode prog_1_method_21_code 13 = .ok (.aload_n 0, 1) := by decide +kernel
theorem d_xP_areNumbers_14 : decode prog_1_method_21_code 14 = .ok (.iload_n 2, 1) := by decide +kernel
theorem d_xP_areNumbers_15 : decode prog_1_method_21_code 15 = .ok (.laload, 1) := by decide +kernel
theorem d_xP_areNumbers_16 : decode prog_1_method_21_code 16 = .ok (.invokestatic 166, 3) := by decide +kernel
theorem d_xP_areNumbers_19 : decode prog_1_method_21_code 19 = .ok (.ifCond .ne 5, 3) := by decide +kernel
theorem d_xP_areNumbers_22 : decode prog_1_method_21_code 22 = .ok (.iconst 0, 1) := by decide +kernel
theorem d_xP_areNumbers_23 : decode prog_1_method_21_code 23 = .ok (.ireturn, 1) := by decide +kernel
theorem d_xP_areNumbers_24 : decode prog_1_method_21_code 24 = .ok (.iinc 2 1, 3) := by decide +kernel
theorem d_xP_areNumbers_27 : decode prog_1_method_21_code 27 = .ok (.goto (-25), 3) := by decide +kernel
theorem d_xP_areNumbers_30 : decode prog_1_method_21_code 30 = .ok (.iconst 1, 1) := by decide +kernel
theorem d_xP_areNumbers_31 : decode prog_1_method_21_code 31 = .ok (.ireturn, 1) := by decide +kernel
theorem d_xP_nearest_0 : decode prog_1_method_22_code 0 = .ok (.lload_n 2, 1) := by decide +kernel
theorem d_xP_nearest_1 : decode prog_1_method_22_code 1 = .ok (.lconst 1, 1) := by decide +kernel
theorem d_xP_nearest_2 : decode prog_1_method_22_code 2 = .ok (.lcmp, 1) := by decide +kernel
theorem d_xP_nearest_3 : decode prog_1_method_22_code 3 = .ok (.ifCond .ge 7, 3) := by decide +kernel
theorem d_xP_nearest_6 : decode prog_1_method_22_code 6 = .ok (.lconst 0, 1) := by decide +kernel
theorem d_xP_nearest_7 : decode prog_1_method_22_code 7 = .ok (.goto 18, 3) := by decide +kernel
theorem d_xP_nearest_10 : decode prog_1_method_22_code 10 = .ok (.ldc2_w 170, 3) := by decide +kernel
theorem d_xP_nearest_13 : decode prog_1_method_22_code 13 = .ok (.lload_n 0, 1) := by decide +kernel
theorem d_xP_nearest_14 : decode prog_1_method_22_code 14 = .ok (.lmul, 1) := by decide +kernel
theorem d_xP_nearest_15 : decode prog_1_method_22_code 15 = .ok (.lload_n 2, 1) := by decide +kernel
theorem d_xP_nearest_16 : decode prog_1_method_22_code 16 = .ok (.ladd, 1) := by decide +kernel
theorem d_xP_nearest_17 : decode prog_1_method_22_code 17 = .ok (.ldc2_w 170, 3) := by decide +kernel
theorem d_xP_nearest_20 : decode prog_1_method_22_code 20 = .ok (.lload_n 2, 1) := by decide +kernel
theorem d_xP_nearest_21 : decode prog_1_method_22_code 21 = .ok (.lmul, 1) := by decide +kernel
theorem d_xP_nearest_22 : decode prog_1_method_22_code 22 = .ok (.invokestatic 172, 3) := by decide +kernel
theorem d_xP_nearest_25 : decode prog_1_method_22_code 25 = .ok (.lreturn, 1) := by decide +kernel
theorem d_xRow_put_0 : decode prog_7_method_2_code 0 = .ok (.aload_n 0, 1) := by decide +kernel
theorem d_xRow_put_1 : decode prog_7_method_2_code 1 = .ok (.getfield 13, 3) := by decide +kernel
theorem d_xRow_put_4 : decode prog_7_method_2_code 4 = .ok (.ifCond .lt 36, 3) := by decide +kernel
theorem d_xRow_put_7 : decode prog_7_method_2_code 7 = .ok (.aload_n 0, 1) := by decide +kernel
theorem d_xRow_put_8 : decode prog_7_method_2_code 8 = .ok (.getfield 13, 3) := by decide +kernel
theorem d_xRow_put_11 : decode prog_7_method_2_code 11 = .ok (.aload_n 0, 1) := by decide +kernel
theorem d_xRow_put_12 : decode prog_7_method_2_code 12 = .ok (.getfield 7, 3) := by decide +kernel
theorem d_xRow_put_15 : decode prog_7_method_2_code 15 = .ok (.arraylength, 1) := by decide +kernel
theorem d_xRow_put_16 : decode prog_7_method_2_code 16 = .ok (.if_icmp .ge 24, 3) := by decide +kernel
theorem d_xRow_put_19 : decode prog_7_method_2_code 19 = .ok (.aload_n 0, 1) := by decide +kernel
theorem d_xRow_put_20 : decode prog_7_method_2_code 20 = .ok (.getfield 7, 3) := by decide +kernel
theorem d_xRow_put_23 : decode prog_7_method_2_code 23 = .ok (.aload_n 0, 1) := by decide +kernel
theorem d_xRow_put_24 : decode prog_7_method_2_code 24 = .ok (.getfield 13, 3) := by decide +kernel
theorem d_xRow_put_27 : decode prog_7_method_2_code 27 = .ok (.iload_n 1, 1) := by decide +kernel
theorem d_xRow_put_28 : decode prog_7_method_2_code 28 = .ok (.i2c, 1) := by decide +kernel
theorem d_xRow_put_29 : decode prog_7_method_2_code 29 = .ok (.castore, 1) := by decide +kernel
theorem d_xRow_put_30 : decode prog_7_method_2_code 30 = .ok (.aload_n 0, 1) := by decide +kernel
theorem d_xRow_put_31 : decode prog_7_method_2_code 31 = .ok (.dup, 1) := by decide +kernel
theorem d_xRow_put_32 : decode prog_7_method_2_code 32 = .ok (.getfield 13, 3) := by decide +kernel
theorem d_xRow_put_35 : decode prog_7_method_2_code 35 = .ok (.iconst 1, 1) := by decide +kernel
theorem d_xRow_put_36 : decode prog_7_method_2_code 36 = .ok (.iadd, 1) := by decide +kernel
theorem d_xRow_put_37 : decode prog_7_method_2_code 37 = .ok (.putfield 13, 3) := by decide +kernel
theorem d_xRow_put_40 : decode prog_7_method_2_code 40 = .ok (.return_, 1) := by decide +kernel
theorem d_xRow_at_0 : decode prog_7_method_3_code 0 = .ok (.iload_n 1, 1) := by decide +kernel
theorem d_xRow_at_1 : decode prog_7_method_3_code 1 = .ok (.ifCond .lt 29, 3) := by decide +kernel
theorem d_xRow_at_4 : decode prog_7_method_3_code 4 = .ok (.iload_n 1, 1) := by decide +kernel
theorem d_xRow_at_5 : decode prog_7_method_3_code 5 = .ok (.aload_n 0, 1) := by decide +kernel
theorem d_xRow_at_6 : decode prog_7_method_3_code 6 = .ok (.getfield 13, 3) := by decide +kernel
theorem d_xRow_at_9 : decode prog_7_method_3_code 9 = .ok (.if_icmp .ge 21, 3) := by decide +kernel
theorem d_xRow_at_12 : decode prog_7_method_3_code 12 = .ok (.iload_n 1, 1) := by decide +kernel
theorem d_xRow_at_13 : decode prog_7_method_3_code 13 = .ok (.aload_n 0, 1) := by decide +kernel
theorem d_xRow_at_14 : decode prog_7_method_3_code 14 = .ok (.getfield 7, 3) := by decide +kernel
theorem d_xRow_at_17 : decode prog_7_method_3_code 17 = .ok (.arraylength, 1) := by decide +kernel
theorem d_xRow_at_18 : decode prog_7_method_3_code 18 = .ok (.if_icmp .ge 12, 3) := by decide +kernel
theorem d_xRow_at_21 : decode prog_7_method_3_code 21 = .ok (.aload_n 0, 1) := by decide +kernel
theorem d_xRow_at_22 : decode prog_7_method_3_code 22 = .ok (.getfield 7, 3) := by decide +kernel
theorem d_xRow_at_25 : decode prog_7_method_3_code 25 = .ok (.iload_n 1, 1) := by decide +kernel
theorem d_xRow_at_26 : decode prog_7_method_3_code 26 = .ok (.caload, 1) := by decide +kernel
theorem d_xRow_at_27 : decode prog_7_method_3_code 27 = .ok (.goto 4, 3) := by decide +kernel
theorem d_xRow_at_30 : decode prog_7_method_3_code 30 = .ok (.iconst 0, 1) := by decide +kernel
theorem d_xRow_at_31 : decode prog_7_method_3_code 31 = .ok (.ireturn, 1) := by decide +kernel
theorem d_xDrawing_has_0 : decode prog_3_method_2_code 0 = .ok (.iload_n 1, 1) := by decide +kernel
theorem d_xDrawing_has_1 : decode prog_3_method_2_code 1 = .ok (.ifCond .lt 22, 3) := by decide +kernel
theorem d_xDrawing_has_4 : decode prog_3_method_2_code 4 = .ok (.iload_n 1, 1) := by decide +kernel
theorem d_xDrawing_has_5 : decode prog_3_method_2_code 5 = .ok (.aload_n 0, 1) := by decide +kernel
theorem d_xDrawing_has_6 : decode prog_3_method_2_code 6 = .ok (.getfield 18, 3) := by decide +kernel
theorem d_xDrawing_has_9 : decode prog_3_method_2_code 9 = .ok (.if_icmp .ge 14, 3) := by decide +kernel
theorem d_xDrawing_has_12 : decode prog_3_method_2_code 12 = .ok (.iload_n 1, 1) := by decide +kernel
theorem d_xDrawing_has_13 : decode prog_3_method_2_code 13 = .ok (.sipush 150, 3) := by decide +kernel
theorem d_xDrawing_has_16 : decode prog_3_method_2_code 16 = .ok (.if_icmp .ge 7, 3) := by decide +kernel
theorem d_xDrawing_has_19 : decode prog_3_method_2_code 19 = .ok (.iconst 1, 1) := by decide +kernel
theorem d_xDrawing_has_20 : decode prog_3_method_2_code 20 = .ok (.goto 4, 3) := by decide +kernel
theorem d_xDrawing_has_23 : decode prog_3_method_2_code 23 = .ok (.iconst 0, 1) := by decide +kernel
theorem d_xDrawing_has_24 : decode prog_3_method_2_code 24 = .ok (.ireturn, 1) := by decide +kernel
theorem d_xDrawing_add_0 : decode prog_3_method_3_code 0 = .ok (.iload_n 1, 1) := by decide +kernel
theorem d_xDrawing_add_1 : decode prog_3_method_3_code 1 = .ok (.invokestatic 22, 3) := by decide +kernel
theorem d_xDrawing_add_4 : decode prog_3_method_3_code 4 = .ok (.istore_n 3, 1) := by decide +kernel
theorem d_xDrawing_add_5 : decode prog_3_method_3_code 5 = .ok (.aload_n 0, 1) := by decide +kernel
theorem d_xDrawing_add_6 : decode prog_3_method_3_code 6 = .ok (.getfield 18, 3) := by decide +kernel
theorem d_xDrawing_add_9 : decode prog_3_method_3_code 9 = .ok (.ifCond .lt 27, 3) := by decide +kernel
theorem d_xDrawing_add_12 : decode prog_3_method_3_code 12 = .ok (.aload_n 0, 1) := by decide +kernel
theorem d_xDrawing_add_13 : decode prog_3_method_3_code 13 = .ok (.getfield 18, 3) := by decide +kernel
theorem d_xDrawing_add_16 : decode prog_3_method_3_code 16 = .ok (.sipush 150, 3) := by decide +kernel
theorem d_xDrawing_add_19 : decode prog_3_method_3_code 19 = .ok (.if_icmp .ge 17, 3) := by decide +kernel
theorem d_xDrawing_add_22 : decode prog_3_method_3_code 22 = .ok (.aload_n 2, 1) := by decide +kernel
theorem d_xDrawing_add_23 : decode prog_3_method_3_code 23 = .ok (.arraylength, 1) := by decide +kernel
theorem d_xDrawing_add_24 : decode prog_3_method_3_code 24 = .ok (.iload_n 3, 1) := by decide +kernel
theorem d_xDrawing_add_25 : decode prog_3_method_3_code 25 = .ok (.if_icmp .lt 11, 3) := by decide +kernel
theorem d_xDrawing_add_28 : decode prog_3_method_3_code 28 = .ok (.aload_n 2, 1) := by decide +kernel
theorem d_xDrawing_add_29 : decode prog_3_method_3_code 29 = .ok (.iload_n 3, 1) := by decide +kernel
theorem d_xDrawing_add_30 : decode prog_3_method_3_code 30 = .ok (.invokestatic 26, 3) := by decide +kernel
theorem d_xDrawing_add_33 : decode prog_3_method_3_code 33 = .ok (.ifCond .ne 5, 3) := by decide +kernel
theorem d_xDrawing_add_36 : decode prog_3_method_3_code 36 = .ok (.iconst 0, 1) := by decide +kernel
theorem d_xDrawing_add_37 : decode prog_3_method_3_code 37 = .ok (.ireturn, 1) := by decide +kernel
theorem d_xDrawing_add_38 : decode prog_3_method_3_code 38 = .ok (.iconst 0, 1) := by decide +kernel
theorem d_xDrawing_add_39 : decode prog_3_method_3_code 39 = .ok (.istore 4, 2) := by decide +kernel
theorem d_xDrawing_add_41 : decode prog_3_method_3_code 41 = .ok (.iload 4, 2) := by decide +kernel
theorem d_xDrawing_add_43 : decode prog_3_method_3_code 43 = .ok (.iload_n 3, 1) := by decide +kernel
theorem d_xDrawing_add_44 : decode prog_3_method_3_code 44 = .ok (.if_icmp .ge 29, 3) := by decide +kernel
theorem d_xDrawing_add_47 : decode prog_3_method_3_code 47 = .ok (.aload_n 0, 1) := by decide +kernel
theorem d_xDrawing_add_48 : decode prog_3_method_3_code 48 = .ok (.getfield 15, 3) := by decide +kernel
theorem d_xDrawing_add_51 : decode prog_3_method_3_code 51 = .ok (.aload_n 0, 1) := by decide +kernel
theorem d_xDrawing_add_52 : decode prog_3_method_3_code 52 = .ok (.getfield 18, 3) := by decide +kernel
theorem d_xDrawing_add_55 : decode prog_3_method_3_code 55 = .ok (.bipush 6, 2) := by decide +kernel
theorem d_xDrawing_add_57 : decode prog_3_method_3_code 57 = .ok (.imul, 1) := by decide +kernel
theorem d_xDrawing_add_58 : decode prog_3_method_3_code 58 = .ok (.iload 4, 2) := by decide +kernel
theorem d_xDrawing_add_60 : decode prog_3_method_3_code 60 = .ok (.iadd, 1) := by decide +kernel
theorem d_xDrawing_add_61 : decode prog_3_method_3_code 61 = .ok (.aload_n 2, 1) := by decide +kernel
theorem d_xDrawing_add_62 : decode prog_3_method_3_code 62 = .ok (.iload 4, 2) := by decide +kernel
theorem d_xDrawing_add_64 : decode prog_3_method_3_code 64 = .ok (.laload, 1) := by decide +kernel
theorem d_xDrawing_add_65 : decode prog_3_method_3_code 65 = .ok (.l2i, 1) := by decide +kernel
theorem d_xDrawing_add_66 : decode prog_3_method_3_code 66 = .ok (.iastore, 1) := by decide +kernel
theorem d_xDrawing_add_67 : decode prog_3_method_3_code 67 = .ok (.iinc 4 1, 3) := by decide +kernel
theorem d_xDrawing_add_70 : decode prog_3_method_3_code 70 = .ok (.goto (-29), 3) := by decide +kernel
theorem d_xDrawing_add_73 : decode prog_3_method_3_code 73 = .ok (.aload_n 0, 1) := by decide +kernel
theorem d_xDrawing_add_74 : decode prog_3_method_3_code 74 = .ok (.getfield 9, 3) := by decide +kernel
theorem d_xDrawing_add_77 : decode prog_3_method_3_code 77 = .ok (.aload_n 0, 1) := by decide +kernel
theorem d_xDrawing_add_78 : decode prog_3_method_3_code 78 = .ok (.getfield 18, 3) := by decide +kernel
theorem d_xDrawing_add_81 : decode prog_3_method_3_code 81 = .ok (.iload_n 1, 1) := by decide +kernel
theorem d_xDrawing_add_82 : decode prog_3_method_3_code 82 = .ok (.iastore, 1) := by decide +kernel
theorem d_xDrawing_add_83 : decode prog_3_method_3_code 83 = .ok (.aload_n 0, 1) := by decide +kernel
theorem d_xDrawing_add_84 : decode prog_3_method_3_code 84 = .ok (.dup, 1) := by decide +kernel
theorem d_xDrawing_add_85 : decode prog_3_method_3_code 85 = .ok (.getfield 18, 3) := by decide +kernel
theorem d_xDrawing_add_88 : decode prog_3_method_3_code 88 = .ok (.iconst 1, 1) := by decide +kernel
theorem d_xDrawing_add_89 : decode prog_3_method_3_code 89 = .ok (.iadd, 1) := by decide +kernel
theorem d_xDrawing_add_90 : decode prog_3_method_3_code 90 = .ok (.putfield 18, 3) := by decide +kernel
theorem d_xDrawing_add_93 : decode prog_3_method_3_code 93 = .ok (.iconst 1, 1) := by decide +kernel
theorem d_xDrawing_add_94 : decode prog_3_method_3_code 94 = .ok (.ireturn, 1) := by decide +kernel
theorem d_xDrawing_extreme_0 : decode prog_3_method_4_code 0 = .ok (.iconst 0, 1) := by decide +kernel
theorem d_xDrawing_extreme_1 : decode prog_3_method_4_code 1 = .ok (.istore_n 3, 1) := by decide +kernel
theorem d_xDrawing_extreme_2 : decode prog_3_method_4_code 2 = .ok (.iconst 1, 1) := by decide +kernel
theorem d_xDrawing_extreme_3 : decode prog_3_method_4_code 3 = .ok (.istore 4, 2) := by decide +kernel
theorem d_xDrawing_extreme_5 : decode prog_3_method_4_code 5 = .ok (.iconst 0, 1) := by decide +kernel
theorem d_xDrawing_extreme_6 : decode prog_3_method_4_code 6 = .ok (.istore 5, 2) := by decide +kernel
theorem d_xDrawing_extreme_8 : decode prog_3_method_4_code 8 = .ok (.iload 5, 2) := by decide +kernel
theorem d_xDrawing_extreme_10 : decode prog_3_method_4_code 10 = .ok (.sipush 150, 3) := by decide +kernel
theorem d_xDrawing_extreme_13 : decode prog_3_method_4_code 13 = .ok (.if_icmp .ge 87, 3) := by decide +kernel
theorem d_xDrawing_extreme_16 : decode prog_3_method_4_code 16 = .ok (.iload 5, 2) := by decide +kernel
theorem d_xDrawing_extreme_18 : decode prog_3_method_4_code 18 = .ok (.aload_n 0, 1) := by decide +kernel
theorem d_xDrawing_extreme_19 : decode prog_3_method_4_code 19 = .ok (.getfield 18, 3) := by decide +kernel
theorem d_xDrawing_extreme_22 : decode prog_3_method_4_code 22 = .ok (.if_icmp .ge 78, 3) := by decide +kernel
theorem d_xDrawing_extreme_25 : decode prog_3_method_4_code 25 = .ok (.iload_n 1, 1) := by decide +kernel
theorem d_xDrawing_extreme_26 : decode prog_3_method_4_code 26 = .ok (.istore 6, 2) := by decide +kernel
theorem d_xDrawing_extreme_28 : decode prog_3_method_4_code 28 = .ok (.iload 6, 2) := by decide +kernel
theorem d_xDrawing_extreme_30 : decode prog_3_method_4_code 30 = .ok (.aload_n 0, 1) := by decide +kernel
theorem d_xDrawing_extreme_31 : decode prog_3_method_4_code 31 = .ok (.getfield 9, 3) := by decide +kernel
theorem d_xDrawing_extreme_34 : decode prog_3_method_4_code 34 = .ok (.iload 5, 2) := by decide +kernel
theorem d_xDrawing_extreme_36 : decode prog_3_method_4_code 36 = .ok (.iaload, 1) := by decide +kernel
theorem d_xDrawing_extreme_37 : decode prog_3_method_4_code 37 = .ok (.invokestatic 22, 3) := by decide +kernel
theorem d_xDrawing_extreme_40 : decode prog_3_method_4_code 40 = .ok (.if_icmp .ge 54, 3) := by decide +kernel
theorem d_xDrawing_extreme_43 : decode prog_3_method_4_code 43 = .ok (.aload_n 0, 1) := by decide +kernel
theorem d_xDrawing_extreme_44 : decode prog_3_method_4_code 44 = .ok (.getfield 15, 3) := by decide +kernel
theorem d_xDrawing_extreme_47 : decode prog_3_method_4_code 47 = .ok (.iload 5, 2) := by decide +kernel
theorem d_xDrawing_extreme_49 : decode prog_3_method_4_code 49 = .ok (.bipush 6, 2) := by decide +kernel
theorem d_xDrawing_extreme_51 : decode prog_3_method_4_code 51 = .ok (.imul, 1) := by decide +kernel
theorem d_xDrawing_extreme_52 : decode prog_3_method_4_code 52 = .ok (.iload 6, 2) := by decide +kernel
theorem d_xDrawing_extreme_54 : decode prog_3_method_4_code 54 = .ok (.iadd, 1) := by decide +kernel
theorem d_xDrawing_extreme_55 : decode prog_3_method_4_code 55 = .ok (.iaload, 1) := by decide +kernel
theorem d_xDrawing_extreme_56 : decode prog_3_method_4_code 56 = .ok (.istore 7, 2) := by decide +kernel
theorem d_xDrawing_extreme_58 : decode prog_3_method_4_code 58 = .ok (.iload 4, 2) := by decide +kernel
theorem d_xDrawing_extreme_60 : decode prog_3_method_4_code 60 = .ok (.ifCond .ne 22, 3) := by decide +kernel
theorem d_xDrawing_extreme_63 : decode prog_3_method_4_code 63 = .ok (.iload_n 2, 1) := by decide +kernel
theorem d_xDrawing_extreme_64 : decode prog_3_method_4_code 64 = .ok (.ifCond .eq 12, 3) := by decide +kernel
theorem d_xDrawing_extreme_67 : decode prog_3_method_4_code 67 = .ok (.iload 7, 2) := by decide +kernel
theorem d_xDrawing_extreme_69 : decode prog_3_method_4_code 69 = .ok (.iload_n 3, 1) := by decide +kernel
theorem d_xDrawing_extreme_70 : decode prog_3_method_4_code 70 = .ok (.if_icmp .le 18, 3) := by decide +kernel
theorem d_xDrawing_extreme_73 : decode prog_3_method_4_code 73 = .ok (.goto 9, 3) := by decide +kernel
theorem d_xDrawing_extreme_76 : decode prog_3_method_4_code 76 = .ok (.iload 7, 2) := by decide +kernel
theorem d_xDrawing_extreme_78 : decode prog_3_method_4_code 78 = .ok (.iload_n 3, 1) := by decide +kernel
theorem d_xDrawing_extreme_79 : decode prog_3_method_4_code 79 = .ok (.if_icmp .ge 9, 3) := by decide +kernel
theorem d_xDrawing_extreme_82 : decode prog_3_method_4_code 82 = .ok (.iload 7, 2) := by decide +kernel
theorem d_xDrawing_extreme_84 : decode prog_3_method_4_code 84 = .ok (.istore_n 3, 1) := by decide +kernel
theorem d_xDrawing_extreme_85 : decode prog_3_method_4_code 85 = .ok (.iconst 0, 1) := by decide +kernel
theorem d_xDrawing_extreme_86 : decode prog_3_method_4_code 86 = .ok (.istore 4, 2) := by decide +kernel
theorem d_xDrawing_extreme_88 : decode prog_3_method_4_code 88 = .ok (.iinc 6 2, 3) := by decide +kernel
theorem d_xDrawing_extreme_91 : decode prog_3_method_4_code 91 = .ok (.goto (-63), 3) := by decide +kernel
theorem d_xDrawing_extreme_94 : decode prog_3_method_4_code 94 = .ok (.iinc 5 1, 3) := by decide +kernel
theorem d_xDrawing_extreme_97 : decode prog_3_method_4_code 97 = .ok (.goto (-89), 3) := by decide +kernel
theorem d_xDrawing_extreme_100 : decode prog_3_method_4_code 100 = .ok (.iload_n 3, 1) := by decide +kernel
theorem d_xDrawing_extreme_101 : decode prog_3_method_4_code 101 = .ok (.ireturn, 1) := by decide +kernel
theorem d_xDrawing_edges_0 : decode prog_3_method_5_code 0 = .ok (.iconst 0, 1) := by decide +kernel
theorem d_xDrawing_edges_1 : decode prog_3_method_5_code 1 = .ok (.istore_n 1, 1) := by decide +kernel
theorem d_xDrawing_edges_2 : decode prog_3_method_5_code 2 = .ok (.iconst 0, 1) := by decide +kernel
theorem d_xDrawing_edges_3 : decode prog_3_method_5_code 3 = .ok (.istore_n 2, 1) := by decide +kernel
theorem d_xDrawing_edges_4 : decode prog_3_method_5_code 4 = .ok (.iconst 0, 1) := by decide +kernel
theorem d_xDrawing_edges_5 : decode prog_3_method_5_code 5 = .ok (.istore_n 3, 1) := by decide +kernel
theorem d_xDrawing_edges_6 : decode prog_3_method_5_code 6 = .ok (.iload_n 3, 1) := by decide +kernel
theorem d_xDrawing_edges_7 : decode prog_3_method_5_code 7 = .ok (.sipush 150, 3) := by decide +kernel
theorem d_xDrawing_edges_10 : decode prog_3_method_5_code 10 = .ok (.if_icmp .ge 75, 3) := by decide +kernel
theorem d_xDrawing_edges_13 : decode prog_3_method_5_code 13 = .ok (.iload_n 3, 1) := by decide +kernel
theorem d_xDrawing_edges_14 : decode prog_3_method_5_code 14 = .ok (.aload_n 0, 1) := by decide +kernel
theorem d_xDrawing_edges_15 : decode prog_3_method_5_code 15 = .ok (.getfield 18, 3) := by decide +kernel
theorem d_xDrawing_edges_18 : decode prog_3_method_5_code 18 = .ok (.if_icmp .ge 67, 3) := by decide +kernel
theorem d_xDrawing_edges_21 : decode prog_3_method_5_code 21 = .ok (.aload_n 0, 1) := by decide +kernel
theorem d_xDrawing_edges_22 : decode prog_3_method_5_code 22 = .ok (.getfield 9, 3) := by decide +kernel
theorem d_xDrawing_edges_25 : decode prog_3_method_5_code 25 = .ok (.iload_n 3, 1) := by decide +kernel
theorem d_xDrawing_edges_26 : decode prog_3_method_5_code 26 = .ok (.iaload, 1) := by decide +kernel
theorem d_xDrawing_edges_27 : decode prog_3_method_5_code 27 = .ok (.iconst 1, 1) := by decide +kernel
theorem d_xDrawing_edges_28 : decode prog_3_method_5_code 28 = .ok (.if_icmp .eq 13, 3) := by decide +kernel
theorem d_xDrawing_edges_31 : decode prog_3_method_5_code 31 = .ok (.aload_n 0, 1) := by decide +kernel
theorem d_xDrawing_edges_32 : decode prog_3_method_5_code 32 = .ok (.getfield 9, 3) := by decide +kernel
theorem d_xDrawing_edges_35 : decode prog_3_method_5_code 35 = .ok (.iload_n 3, 1) := by decide +kernel
theorem d_xDrawing_edges_36 : decode prog_3_method_5_code 36 = .ok (.iaload, 1) := by decide +kernel
theorem d_xDrawing_edges_37 : decode prog_3_method_5_code 37 = .ok (.iconst 2, 1) := by decide +kernel
theorem d_xDrawing_edges_38 : decode prog_3_method_5_code 38 = .ok (.if_icmp .ne 27, 3) := by decide +kernel
theorem d_xDrawing_edges_41 : decode prog_3_method_5_code 41 = .ok (.iload_n 1, 1) := by decide +kernel
theorem d_xDrawing_edges_42 : decode prog_3_method_5_code 42 = .ok (.aload_n 0, 1) := by decide +kernel
theorem d_xDrawing_edges_43 : decode prog_3_method_5_code 43 = .ok (.getfield 9, 3) := by decide +kernel
theorem d_xDrawing_edges_46 : decode prog_3_method_5_code 46 = .ok (.iload_n 3, 1) := by decide +kernel
theorem d_xDrawing_edges_47 : decode prog_3_method_5_code 47 = .ok (.iaload, 1) := by decide +kernel
theorem d_xDrawing_edges_48 : decode prog_3_method_5_code 48 = .ok (.iconst 1, 1) := by decide +kernel
theorem d_xDrawing_edges_49 : decode prog_3_method_5_code 49 = .ok (.if_icmp .ne 7, 3) := by decide +kernel
theorem d_xDrawing_edges_52 : decode prog_3_method_5_code 52 = .ok (.iconst 1, 1) := by decide +kernel
theorem d_xDrawing_edges_53 : decode prog_3_method_5_code 53 = .ok (.goto 5, 3) := by decide +kernel
theorem d_xDrawing_edges_56 : decode prog_3_method_5_code 56 = .ok (.bipush 16, 2) := by decide +kernel
theorem d_xDrawing_edges_58 : decode prog_3_method_5_code 58 = .ok (.iadd, 1) := by decide +kernel
theorem d_xDrawing_edges_59 : decode prog_3_method_5_code 59 = .ok (.istore_n 1, 1) := by decide +kernel
theorem d_xDrawing_edges_60 : decode prog_3_method_5_code 60 = .ok (.iconst 1, 1) := by decide +kernel
theorem d_xDrawing_edges_61 : decode prog_3_method_5_code 61 = .ok (.istore_n 2, 1) := by decide +kernel
theorem d_xDrawing_edges_62 : decode prog_3_method_5_code 62 = .ok (.goto 17, 3) := by decide +kernel
theorem d_xDrawing_edges_65 : decode prog_3_method_5_code 65 = .ok (.iload_n 1, 1) := by decide +kernel
theorem d_xDrawing_edges_66 : decode prog_3_method_5_code 66 = .ok (.iload_n 2, 1) := by decide +kernel
theorem d_xDrawing_edges_67 : decode prog_3_method_5_code 67 = .ok (.ifCond .eq 7, 3) := by decide +kernel
theorem d_xDrawing_edges_70 : decode prog_3_method_5_code 70 = .ok (.iconst 1, 1) := by decide +kernel
theorem d_xDrawing_edges_71 : decode prog_3_method_5_code 71 = .ok (.goto 4, 3) := by decide +kernel
theorem d_xDrawing_edges_74 : decode prog_3_method_5_code 74 = .ok (.iconst 0, 1) := by decide +kernel
theorem d_xDrawing_edges_75 : decode prog_3_method_5_code 75 = .ok (.iadd, 1) := by decide +kernel
theorem d_xDrawing_edges_76 : decode prog_3_method_5_code 76 = .ok (.istore_n 1, 1) := by decide +kernel
theorem d_xDrawing_edges_77 : decode prog_3_method_5_code 77 = .ok (.iconst 0, 1) := by decide +kernel
theorem d_xDrawing_edges_78 : decode prog_3_method_5_code 78 = .ok (.istore_n 2, 1) := by decide +kernel
theorem d_xDrawing_edges_79 : decode prog_3_method_5_code 79 = .ok (.iinc 3 1, 3) := by decide +kernel
theorem d_xDrawing_edges_82 : decode prog_3_method_5_code 82 = .ok (.goto (-76), 3) := by decide +kernel
theorem d_xDrawing_edges_85 : decode prog_3_method_5_code 85 = .ok (.iload_n 2, 1) := by decide +kernel
theorem d_xDrawing_edges_86 : decode prog_3_method_5_code 86 = .ok (.ifCond .eq 9, 3) := by decide +kernel
theorem d_xDrawing_edges_89 : decode prog_3_method_5_code 89 = .ok (.iload_n 1, 1) := by decide +kernel
theorem d_xDrawing_edges_90 : decode prog_3_method_5_code 90 = .ok (.iconst 1, 1) := by decide +kernel
theorem d_xDrawing_edges_91 : decode prog_3_method_5_code 91 = .ok (.iadd, 1) := by decide +kernel
theorem d_xDrawing_edges_92 : decode prog_3_method_5_code 92 = .ok (.goto 4, 3) := by decide +kernel
theorem d_xDrawing_edges_95 : decode prog_3_method_5_code 95 = .ok (.iload_n 1, 1) := by decide +kernel
theorem d_xDrawing_edges_96 : decode prog_3_method_5_code 96 = .ok (.ireturn, 1) := by decide +kernel
theorem d_xMatrices_startOver_0 : decode prog_4_method_2_code 0 = .ok (.aload_n 0, 1) := by decide +kernel
theorem d_xMatrices_startOver_1 : decode prog_4_method_2_code 1 = .ok (.iconst 0, 1) := by decide +kernel
theorem d_xMatrices_startOver_2 : decode prog_4_method_2_code 2 = .ok (.putfield 15, 3) := by decide +kernel
theorem d_xMatrices_startOver_5 : decode prog_4_method_2_code 5 = .ok (.aload_n 0, 1) := by decide +kernel
theorem d_xMatrices_startOver_6 : decode prog_4_method_2_code 6 = .ok (.getfield 9, 3) := by decide +kernel
theorem d_xMatrices_startOver_9 : decode prog_4_method_2_code 9 = .ok (.lconst 0, 1) := by decide +kernel
theorem d_xMatrices_startOver_10 : decode prog_4_method_2_code 10 = .ok (.invokestatic 19, 3) := by decide +kernel
theorem d_xMatrices_startOver_13 : decode prog_4_method_2_code 13 = .ok (.aload_n 0, 1) := by decide +kernel
theorem d_xMatrices_startOver_14 : decode prog_4_method_2_code 14 = .ok (.getfield 9, 3) := by decide +kernel
theorem d_xMatrices_startOver_17 : decode prog_4_method_2_code 17 = .ok (.iconst 0, 1) := by decide +kernel
theorem d_xMatrices_startOver_18 : decode prog_4_method_2_code 18 = .ok (.ldc2_w 25, 3) := by decide +kernel
theorem d_xMatrices_startOver_21 : decode prog_4_method_2_code 21 = .ok (.lastore, 1) := by decide +kernel
theorem d_xMatrices_startOver_22 : decode prog_4_method_2_code 22 = .ok (.aload_n 0, 1) := by decide +kernel
theorem d_xMatrices_startOver_23 : decode prog_4_method_2_code 23 = .ok (.getfield 9, 3) := by decide +kernel
theorem d_xMatrices_startOver_26 : decode prog_4_method_2_code 26 = .ok (.iconst 3, 1) := by decide +kernel
theorem d_xMatrices_startOver_27 : decode prog_4_method_2_code 27 = .ok (.ldc2_w 25, 3) := by decide +kernel
theorem d_xMatrices_startOver_30 : decode prog_4_method_2_code 30 = .ok (.lastore, 1) := by decide +kernel
theorem d_xMatrices_startOver_31 : decode prog_4_method_2_code 31 = .ok (.return_, 1) := by decide +kernel
theorem d_xMatrices_isFull_0 : decode prog_4_method_3_code 0 = .ok (.aload_n 0, 1) := by decide +kernel
theorem d_xMatrices_isFull_1 : decode prog_4_method_3_code 1 = .ok (.getfield 15, 3) := by decide +kernel
theorem d_xMatrices_isFull_4 : decode prog_4_method_3_code 4 = .ok (.ifCond .lt 12, 3) := by decide +kernel
theorem d_xMatrices_isFull_7 : decode prog_4_method_3_code 7 = .ok (.aload_n 0, 1) := by decide +kernel
theorem d_xMatrices_isFull_8 : decode prog_4_method_3_code 8 = .ok (.getfield 15, 3) := by decide +kernel
theorem d_xMatrices_isFull_11 : decode prog_4_method_3_code 11 = .ok (.bipush 8, 2) := by decide +kernel
theorem d_xMatrices_isFull_13 : decode prog_4_method_3_code 13 = .ok (.if_icmp .lt 7, 3) := by decide +kernel
theorem d_xMatrices_isFull_16 : decode prog_4_method_3_code 16 = .ok (.iconst 1, 1) := by decide +kernel
theorem d_xMatrices_isFull_17 : decode prog_4_method_3_code 17 = .ok (.goto 4, 3) := by decide +kernel
theorem d_xMatrices_isFull_20 : decode prog_4_method_3_code 20 = .ok (.iconst 0, 1) := by decide +kernel
theorem d_xMatrices_isFull_21 : decode prog_4_method_3_code 21 = .ok (.ireturn, 1) := by decide +kernel
theorem d_xMatrices_shut_0 : decode prog_4_method_5_code 0 = .ok (.aload_n 0, 1) := by decide +kernel
theorem d_xMatrices_shut_1 : decode prog_4_method_5_code 1 = .ok (.getfield 15, 3) := by decide +kernel
theorem d_xMatrices_shut_4 : decode prog_4_method_5_code 4 = .ok (.ifCond .gt 5, 3) := by decide +kernel
theorem d_xMatrices_shut_7 : decode prog_4_method_5_code 7 = .ok (.iconst 0, 1) := by decide +kernel
theorem d_xMatrices_shut_8 : decode prog_4_method_5_code 8 = .ok (.ireturn, 1) := by decide +kernel
theorem d_xMatrices_shut_9 : decode prog_4_method_5_code 9 = .ok (.aload_n 0, 1) := by decide +kernel
theorem d_xMatrices_shut_10 : decode prog_4_method_5_code 10 = .ok (.dup, 1) := by decide +kernel
theorem d_xMatrices_shut_11 : decode prog_4_method_5_code 11 = .ok (.getfield 15, 3) := by decide +kernel
theorem d_xMatrices_shut_14 : decode prog_4_method_5_code 14 = .ok (.iconst 1, 1) := by decide +kernel
theorem d_xMatrices_shut_15 : decode prog_4_method_5_code 15 = .ok (.isub, 1) := by decide +kernel
theorem d_xMatrices_shut_16 : decode prog_4_method_5_code 16 = .ok (.putfield 15, 3) := by decide +kernel
theorem d_xMatrices_shut_19 : decode prog_4_method_5_code 19 = .ok (.iconst 1, 1) := by decide +kernel
theorem d_xMatrices_shut_20 : decode prog_4_method_5_code 20 = .ok (.ireturn, 1) := by decide +kernel
theorem d_xMatrices_across_0 : decode prog_4_method_6_code 0 = .ok (.aload_n 0, 1) := by decide +kernel
theorem d_xMatrices_across_1 : decode prog_4_method_6_code 1 = .ok (.getfield 15, 3) := by decide +kernel
theorem d_xMatrices_across_4 : decode prog_4_method_6_code 4 = .ok (.bipush 6, 2) := by decide +kernel
theorem d_xMatrices_across_6 : decode prog_4_method_6_code 6 = .ok (.imul, 1) := by decide +kernel
theorem d_xMatrices_across_7 : decode prog_4_method_6_code 7 = .ok (.iload 5, 2) := by decide +kernel
theorem d_xMatrices_across_9 : decode prog_4_method_6_code 9 = .ok (.iadd, 1) := by decide +kernel
theorem d_xMatrices_across_10 : decode prog_4_method_6_code 10 = .ok (.istore 7, 2) := by decide +kernel
theorem d_xMatrices_across_12 : decode prog_4_method_6_code 12 = .ok (.iload 7, 2) := by decide +kernel
theorem d_xMatrices_across_14 : decode prog_4_method_6_code 14 = .ok (.ifCond .lt 15, 3) := by decide +kernel
theorem d_xMatrices_across_17 : decode prog_4_method_6_code 17 = .ok (.iload 7, 2) := by decide +kernel
theorem d_xMatrices_across_19 : decode prog_4_method_6_code 19 = .ok (.iconst 4, 1) := by decide +kernel
theorem d_xMatrices_across_20 : decode prog_4_method_6_code 20 = .ok (.iadd, 1) := by decide +kernel
theorem d_xMatrices_across_21 : decode prog_4_method_6_code 21 = .ok (.aload_n 0, 1) := by decide +kernel
theorem d_xMatrices_across_22 : decode prog_4_method_6_code 22 = .ok (.getfield 9, 3) := by decide +kernel
theorem d_xMatrices_across_25 : decode prog_4_method_6_code 25 = .ok (.arraylength, 1) := by decide +kernel
theorem d_xMatrices_across_26 : decode prog_4_method_6_code 26 = .ok (.if_icmp .lt 5, 3) := by decide +kernel
theorem d_xMatrices_across_29 : decode prog_4_method_6_code 29 = .ok (.lconst 0, 1) := by decide +kernel
theorem d_xMatrices_across_30 : decode prog_4_method_6_code 30 = .ok (.lreturn, 1) := by decide +kernel
theorem d_xMatrices_across_31 : decode prog_4_method_6_code 31 = .ok (.aload_n 0, 1) := by decide +kernel
theorem d_xMatrices_across_32 : decode prog_4_method_6_code 32 = .ok (.getfield 9, 3) := by decide +kernel
theorem d_xMatrices_across_35 : decode prog_4_method_6_code 35 = .ok (.iload 7, 2) := by decide +kernel
theorem d_xMatrices_across_37 : decode prog_4_method_6_code 37 = .ok (.laload, 1) := by decide +kernel
theorem d_xMatrices_across_38 : decode prog_4_method_6_code 38 = .ok (.lload_n 1, 1) := by decide +kernel
theorem d_xMatrices_across_39 : decode prog_4_method_6_code 39 = .ok (.lmul, 1) := by decide +kernel
theorem d_xMatrices_across_40 : decode prog_4_method_6_code 40 = .ok (.aload_n 0, 1) := by decide +kernel
theorem d_xMatrices_across_41 : decode prog_4_method_6_code 41 = .ok (.getfield 9, 3) := by decide +kernel
theorem d_xMatrices_across_44 : decode prog_4_method_6_code 44 = .ok (.iload 7, 2) := by decide +kernel
theorem d_xMatrices_across_46 : decode prog_4_method_6_code 46 = .ok (.iconst 2, 1) := by decide +kernel
theorem d_xMatrices_across_47 : decode prog_4_method_6_code 47 = .ok (.iadd, 1) := by decide +kernel
theorem d_xMatrices_across_48 : decode prog_4_method_6_code 48 = .ok (.laload, 1) := by decide +kernel
theorem d_xMatrices_across_49 : decode prog_4_method_6_code 49 = .ok (.lload_n 3, 1) := by decide +kernel
theorem d_xMatrices_across_50 : decode prog_4_method_6_code 50 = .ok (.lmul, 1) := by decide +kernel
theorem d_xMatrices_across_51 : decode prog_4_method_6_code 51 = .ok (.ladd, 1) := by decide +kernel
theorem d_xMatrices_across_52 : decode prog_4_method_6_code 52 = .ok (.ldc2_w 25, 3) := by decide +kernel
theorem d_xMatrices_across_55 : decode prog_4_method_6_code 55 = .ok (.invokestatic 39, 3) := by decide +kernel
theorem d_xMatrices_across_58 : decode prog_4_method_6_code 58 = .ok (.lstore 8, 2) := by decide +kernel
theorem d_xMatrices_across_60 : decode prog_4_method_6_code 60 = .ok (.iload 6, 2) := by decide +kernel
theorem d_xMatrices_across_62 : decode prog_4_method_6_code 62 = .ok (.ifCond .eq 18, 3) := by decide +kernel
theorem d_xMatrices_across_65 : decode prog_4_method_6_code 65 = .ok (.lload 8, 2) := by decide +kernel
theorem d_xMatrices_across_67 : decode prog_4_method_6_code 67 = .ok (.aload_n 0, 1) := by decide +kernel
theorem d_xMatrices_across_68 : decode prog_4_method_6_code 68 = .ok (.getfield 9, 3) := by decide +kernel
theorem d_xMatrices_across_71 : decode prog_4_method_6_code 71 = .ok (.iload 7, 2) := by decide +kernel
theorem d_xMatrices_across_73 : decode prog_4_method_6_code 73 = .ok (.iconst 4, 1) := by decide +kernel
theorem d_xMatrices_across_74 : decode prog_4_method_6_code 74 = .ok (.iadd, 1) := by decide +kernel
theorem d_xMatrices_across_75 : decode prog_4_method_6_code 75 = .ok (.laload, 1) := by decide +kernel
theorem d_xMatrices_across_76 : decode prog_4_method_6_code 76 = .ok (.ladd, 1) := by decide +kernel
theorem d_xMatrices_across_77 : decode prog_4_method_6_code 77 = .ok (.goto 5, 3) := by decide +kernel
theorem d_xMatrices_across_80 : decode prog_4_method_6_code 80 = .ok (.lload 8, 2) := by decide +kernel
theorem d_xMatrices_across_82 : decode prog_4_method_6_code 82 = .ok (.lreturn, 1) := by decide +kernel
theorem d_xPen_standAtZero_0 : decode prog_5_method_2_code 0 = .ok (.aload_n 0, 1) := by decide +kernel
theorem d_xPen_standAtZero_1 : decode prog_5_method_2_code 1 = .ok (.lconst 0, 1) := by decide +kernel
theorem d_xPen_standAtZero_2 : decode prog_5_method_2_code 2 = .ok (.putfield 25, 3) := by decide +kernel
theorem d_xPen_standAtZero_5 : decode prog_5_method_2_code 5 = .ok (.aload_n 0, 1) := by decide +kernel
theorem d_xPen_standAtZero_6 : decode prog_5_method_2_code 6 = .ok (.lconst 0, 1) := by decide +kernel
theorem d_xPen_standAtZero_7 : decode prog_5_method_2_code 7 = .ok (.putfield 29, 3) := by decide +kernel
theorem d_xPen_standAtZero_10 : decode prog_5_method_2_code 10 = .ok (.aload_n 0, 1) := by decide +kernel
theorem d_xPen_standAtZero_11 : decode prog_5_method_2_code 11 = .ok (.iconst 0, 1) := by decide +kernel
theorem d_xPen_standAtZero_12 : decode prog_5_method_2_code 12 = .ok (.putfield 32, 3) := by decide +kernel
theorem d_xPen_standAtZero_15 : decode prog_5_method_2_code 15 = .ok (.return_, 1) := by decide +kernel
theorem d_xPen_takePoints_0 : decode prog_5_method_4_code 0 = .ok (.iconst 0, 1) := by decide +kernel
theorem d_xPen_takePoints_1 : decode prog_5_method_4_code 1 = .ok (.istore_n 3, 1) := by decide +kernel
theorem d_xPen_takePoints_2 : decode prog_5_method_4_code 2 = .ok (.iload_n 3, 1) := by decide +kernel
theorem d_xPen_takePoints_3 : decode prog_5_method_4_code 3 = .ok (.bipush 6, 2) := by decide +kernel
theorem d_xPen_takePoints_5 : decode prog_5_method_4_code 5 = .ok (.if_icmp .ge 56, 3) := by decide +kernel
theorem d_xPen_takePoints_8 : decode prog_5_method_4_code 8 = .ok (.iload_n 3, 1) := by decide +kernel
theorem d_xPen_takePoints_9 : decode prog_5_method_4_code 9 = .ok (.aload_n 2, 1) := by decide +kernel
theorem d_xPen_takePoints_10 : decode prog_5_method_4_code 10 = .ok (.arraylength, 1) := by decide +kernel
theorem d_xPen_takePoints_11 : decode prog_5_method_4_code 11 = .ok (.if_icmp .ge 50, 3) := by decide +kernel
theorem d_xPen_takePoints_14 : decode prog_5_method_4_code 14 = .ok (.iload_n 3, 1) := by decide +kernel
theorem d_xPen_takePoints_15 : decode prog_5_method_4_code 15 = .ok (.iconst 2, 1) := by decide +kernel
theorem d_xPen_takePoints_16 : decode prog_5_method_4_code 16 = .ok (.irem, 1) := by decide +kernel
theorem d_xPen_takePoints_17 : decode prog_5_method_4_code 17 = .ok (.ifCond .ne 10, 3) := by decide +kernel
theorem d_xPen_takePoints_20 : decode prog_5_method_4_code 20 = .ok (.aload_n 0, 1) := by decide +kernel
theorem d_xPen_takePoints_21 : decode prog_5_method_4_code 21 = .ok (.getfield 25, 3) := by decide +kernel
theorem d_xPen_takePoints_24 : decode prog_5_method_4_code 24 = .ok (.goto 7, 3) := by decide +kernel
theorem d_xPen_takePoints_27 : decode prog_5_method_4_code 27 = .ok (.aload_n 0, 1) := by decide +kernel
theorem d_xPen_takePoints_28 : decode prog_5_method_4_code 28 = .ok (.getfield 29, 3) := by decide +kernel
theorem d_xPen_takePoints_31 : decode prog_5_method_4_code 31 = .ok (.lstore 4, 2) := by decide +kernel
theorem d_xPen_takePoints_33 : decode prog_5_method_4_code 33 = .ok (.aload_n 0, 1) := by decide +kernel
theorem d_xPen_takePoints_34 : decode prog_5_method_4_code 34 = .ok (.getfield 18, 3) := by decide +kernel
theorem d_xPen_takePoints_37 : decode prog_5_method_4_code 37 = .ok (.iload_n 3, 1) := by decide +kernel
theorem d_xPen_takePoints_38 : decode prog_5_method_4_code 38 = .ok (.iload_n 1, 1) := by decide +kernel
theorem d_xPen_takePoints_39 : decode prog_5_method_4_code 39 = .ok (.ifCond .eq 12, 3) := by decide +kernel
theorem d_xPen_takePoints_42 : decode prog_5_method_4_code 42 = .ok (.lload 4, 2) := by decide +kernel
theorem d_xPen_takePoints_44 : decode prog_5_method_4_code 44 = .ok (.aload_n 2, 1) := by decide +kernel
theorem d_xPen_takePoints_45 : decode prog_5_method_4_code 45 = .ok (.iload_n 3, 1) := by decide +kernel
theorem d_xPen_takePoints_46 : decode prog_5_method_4_code 46 = .ok (.laload, 1) := by decide +kernel
theorem d_xPen_takePoints_47 : decode prog_5_method_4_code 47 = .ok (.ladd, 1) := by decide +kernel
theorem d_xPen_takePoints_48 : decode prog_5_method_4_code 48 = .ok (.goto 6, 3) := by decide +kernel
theorem d_xPen_takePoints_51 : decode prog_5_method_4_code 51 = .ok (.aload_n 2, 1) := by decide +kernel
theorem d_xPen_takePoints_52 : decode prog_5_method_4_code 52 = .ok (.iload_n 3, 1) := by decide +kernel
theorem d_xPen_takePoints_53 : decode prog_5_method_4_code 53 = .ok (.laload, 1) := by decide +kernel
theorem d_xPen_takePoints_54 : decode prog_5_method_4_code 54 = .ok (.lastore, 1) := by decide +kernel
theorem d_xPen_takePoints_55 : decode prog_5_method_4_code 55 = .ok (.iinc 3 1, 3) := by decide +kernel
theorem d_xPen_takePoints_58 : decode prog_5_method_4_code 58 = .ok (.goto (-56), 3) := by decide +kernel
theorem d_xPen_takePoints_61 : decode prog_5_method_4_code 61 = .ok (.return_, 1) := by decide +kernel
theorem d_xPen_putTurnedFirst_0 : decode prog_5_method_5_code 0 = .ok (.iconst 5, 1) := by decide +kernel
theorem d_xPen_putTurnedFirst_1 : decode prog_5_method_5_code 1 = .ok (.istore_n 2, 1) := by decide +kernel
theorem d_xPen_putTurnedFirst_2 : decode prog_5_method_5_code 2 = .ok (.iload_n 2, 1) := by decide +kernel
theorem d_xPen_putTurnedFirst_3 : decode prog_5_method_5_code 3 = .ok (.iconst 2, 1) := by decide +kernel
theorem d_xPen_putTurnedFirst_4 : decode prog_5_method_5_code 4 = .ok (.if_icmp .lt 23, 3) := by decide +kernel
theorem d_xPen_putTurnedFirst_7 : decode prog_5_method_5_code 7 = .ok (.aload_n 0, 1) := by decide +kernel
theorem d_xPen_putTurnedFirst_8 : decode prog_5_method_5_code 8 = .ok (.getfield 18, 3) := by decide +kernel
theorem d_xPen_putTurnedFirst_11 : decode prog_5_method_5_code 11 = .ok (.iload_n 2, 1) := by decide +kernel
theorem d_xPen_putTurnedFirst_12 : decode prog_5_method_5_code 12 = .ok (.aload_n 0, 1) := by decide +kernel
theorem d_xPen_putTurnedFirst_13 : decode prog_5_method_5_code 13 = .ok (.getfield 18, 3) := by decide +kernel
theorem d_xPen_putTurnedFirst_16 : decode prog_5_method_5_code 16 = .ok (.iload_n 2, 1) := by decide +kernel
theorem d_xPen_putTurnedFirst_17 : decode prog_5_method_5_code 17 = .ok (.iconst 2, 1) := by decide +kernel
theorem d_xPen_putTurnedFirst_18 : decode prog_5_method_5_code 18 = .ok (.isub, 1) := by decide +kernel
theorem d_xPen_putTurnedFirst_19 : decode prog_5_method_5_code 19 = .ok (.laload, 1) := by decide +kernel
theorem d_xPen_putTurnedFirst_20 : decode prog_5_method_5_code 20 = .ok (.lastore, 1) := by decide +kernel
theorem d_xPen_putTurnedFirst_21 : decode prog_5_method_5_code 21 = .ok (.iinc 2 (-1), 3) := by decide +kernel
theorem d_xPen_putTurnedFirst_24 : decode prog_5_method_5_code 24 = .ok (.goto (-22), 3) := by decide +kernel
theorem d_xPen_putTurnedFirst_27 : decode prog_5_method_5_code 27 = .ok (.aload_n 0, 1) := by decide +kernel
theorem d_xPen_putTurnedFirst_28 : decode prog_5_method_5_code 28 = .ok (.getfield 18, 3) := by decide +kernel
theorem d_xPen_putTurnedFirst_31 : decode prog_5_method_5_code 31 = .ok (.iconst 0, 1) := by decide +kernel
theorem d_xPen_putTurnedFirst_32 : decode prog_5_method_5_code 32 = .ok (.iload_n 1, 1) := by decide +kernel
theorem d_xPen_putTurnedFirst_33 : decode prog_5_method_5_code 33 = .ok (.ifCond .eq 19, 3) := by decide +kernel
theorem d_xPen_putTurnedFirst_36 : decode prog_5_method_5_code 36 = .ok (.ldc2_w 56, 3) := by decide +kernel
theorem d_xPen_putTurnedFirst_39 : decode prog_5_method_5_code 39 = .ok (.aload_n 0, 1) := by decide +kernel
theorem d_xPen_putTurnedFirst_40 : decode prog_5_method_5_code 40 = .ok (.getfield 25, 3) := by decide +kernel
theorem d_xPen_putTurnedFirst_43 : decode prog_5_method_5_code 43 = .ok (.lmul, 1) := by decide +kernel
theorem d_xPen_putTurnedFirst_44 : decode prog_5_method_5_code 44 = .ok (.aload_n 0, 1) := by decide +kernel
theorem d_xPen_putTurnedFirst_45 : decode prog_5_method_5_code 45 = .ok (.getfield 58, 3) := by decide +kernel
theorem d_xPen_putTurnedFirst_48 : decode prog_5_method_5_code 48 = .ok (.lsub, 1) := by decide +kernel
theorem d_xPen_putTurnedFirst_49 : decode prog_5_method_5_code 49 = .ok (.goto 7, 3) := by decide +kernel
theorem d_xPen_putTurnedFirst_52 : decode prog_5_method_5_code 52 = .ok (.aload_n 0, 1) := by decide +kernel
theorem d_xPen_putTurnedFirst_53 : decode prog_5_method_5_code 53 = .ok (.getfield 25, 3) := by decide +kernel
theorem d_xPen_putTurnedFirst_56 : decode prog_5_method_5_code 56 = .ok (.lastore, 1) := by decide +kernel
theorem d_xPen_putTurnedFirst_57 : decode prog_5_method_5_code 57 = .ok (.aload_n 0, 1) := by decide +kernel
theorem d_xPen_putTurnedFirst_58 : decode prog_5_method_5_code 58 = .ok (.getfield 18, 3) := by decide +kernel
theorem d_xPen_putTurnedFirst_61 : decode prog_5_method_5_code 61 = .ok (.iconst 1, 1) := by decide +kernel
theorem d_xPen_putTurnedFirst_62 : decode prog_5_method_5_code 62 = .ok (.iload_n 1, 1) := by decide +kernel
theorem d_xPen_putTurnedFirst_63 : decode prog_5_method_5_code 63 = .ok (.ifCond .eq 19, 3) := by decide +kernel
theorem d_xPen_putTurnedFirst_66 : decode prog_5_method_5_code 66 = .ok (.ldc2_w 56, 3) := by decide +kernel
theorem d_xPen_putTurnedFirst_69 : decode prog_5_method_5_code 69 = .ok (.aload_n 0, 1) := by decide +kernel
theorem d_xPen_putTurnedFirst_70 : decode prog_5_method_5_code 70 = .ok (.getfield 29, 3) := by decide +kernel
theorem d_xPen_putTurnedFirst_73 : decode prog_5_method_5_code 73 = .ok (.lmul, 1) := by decide +kernel
theorem d_xPen_putTurnedFirst_74 : decode prog_5_method_5_code 74 = .ok (.aload_n 0, 1) := by decide +kernel
theorem d_xPen_putTurnedFirst_75 : decode prog_5_method_5_code 75 = .ok (.getfield 61, 3) := by decide +kernel
theorem d_xPen_putTurnedFirst_78 : decode prog_5_method_5_code 78 = .ok (.lsub, 1) := by decide +kernel
theorem d_xPen_putTurnedFirst_79 : decode prog_5_method_5_code 79 = .ok (.goto 7, 3) := by decide +kernel
theorem d_xPen_putTurnedFirst_82 : decode prog_5_method_5_code 82 = .ok (.aload_n 0, 1) := by decide +kernel
theorem d_xPen_putTurnedFirst_83 : decode prog_5_method_5_code 83 = .ok (.getfield 29, 3) := by decide +kernel
theorem d_xPen_putTurnedFirst_86 : decode prog_5_method_5_code 86 = .ok (.lastore, 1) := by decide +kernel
theorem d_xPen_putTurnedFirst_87 : decode prog_5_method_5_code 87 = .ok (.return_, 1) := by decide +kernel
theorem d_xPen_aimByTwoControls_0 : decode prog_5_method_6_code 0 = .ok (.aload_n 0, 1) := by decide +kernel
theorem d_xPen_aimByTwoControls_1 : decode prog_5_method_6_code 1 = .ok (.aload_n 0, 1) := by decide +kernel
theorem d_xPen_aimByTwoControls_2 : decode prog_5_method_6_code 2 = .ok (.getfield 18, 3) := by decide +kernel
theorem d_xPen_aimByTwoControls_5 : decode prog_5_method_6_code 5 = .ok (.iconst 2, 1) := by decide +kernel
theorem d_xPen_aimByTwoControls_6 : decode prog_5_method_6_code 6 = .ok (.laload, 1) := by decide +kernel
theorem d_xPen_aimByTwoControls_7 : decode prog_5_method_6_code 7 = .ok (.putfield 58, 3) := by decide +kernel
theorem d_xPen_aimByTwoControls_10 : decode prog_5_method_6_code 10 = .ok (.aload_n 0, 1) := by decide +kernel
theorem d_xPen_aimByTwoControls_11 : decode prog_5_method_6_code 11 = .ok (.aload_n 0, 1) := by decide +kernel
theorem d_xPen_aimByTwoControls_12 : decode prog_5_method_6_code 12 = .ok (.getfield 18, 3) := by decide +kernel
theorem d_xPen_aimByTwoControls_15 : decode prog_5_method_6_code 15 = .ok (.iconst 3, 1) := by decide +kernel
theorem d_xPen_aimByTwoControls_16 : decode prog_5_method_6_code 16 = .ok (.laload, 1) := by decide +kernel
theorem d_xPen_aimByTwoControls_17 : decode prog_5_method_6_code 17 = .ok (.putfield 61, 3) := by decide +kernel
theorem d_xPen_aimByTwoControls_20 : decode prog_5_method_6_code 20 = .ok (.aload_n 0, 1) := by decide +kernel
theorem d_xPen_aimByTwoControls_21 : decode prog_5_method_6_code 21 = .ok (.bipush 67, 2) := by decide +kernel
theorem d_xPen_aimByTwoControls_23 : decode prog_5_method_6_code 23 = .ok (.putfield 32, 3) := by decide +kernel
theorem d_xPen_aimByTwoControls_26 : decode prog_5_method_6_code 26 = .ok (.return_, 1) := by decide +kernel
theorem d_xPen_aimByOneControl_0 : decode prog_5_method_7_code 0 = .ok (.aload_n 0, 1) := by decide +kernel
theorem d_xPen_aimByOneControl_1 : decode prog_5_method_7_code 1 = .ok (.aload_n 0, 1) := by decide +kernel
theorem d_xPen_aimByOneControl_2 : decode prog_5_method_7_code 2 = .ok (.getfield 18, 3) := by decide +kernel
theorem d_xPen_aimByOneControl_5 : decode prog_5_method_7_code 5 = .ok (.iconst 0, 1) := by decide +kernel
theorem d_xPen_aimByOneControl_6 : decode prog_5_method_7_code 6 = .ok (.laload, 1) := by decide +kernel
theorem d_xPen_aimByOneControl_7 : decode prog_5_method_7_code 7 = .ok (.putfield 58, 3) := by decide +kernel
theorem d_xPen_aimByOneControl_10 : decode prog_5_method_7_code 10 = .ok (.aload_n 0, 1) := by decide +kernel
theorem d_xPen_aimByOneControl_11 : decode prog_5_method_7_code 11 = .ok (.aload_n 0, 1) := by decide +kernel
theorem d_xPen_aimByOneControl_12 : decode prog_5_method_7_code 12 = .ok (.getfield 18, 3) := by decide +kernel
theorem d_xPen_aimByOneControl_15 : decode prog_5_method_7_code 15 = .ok (.iconst 1, 1) := by decide +kernel
theorem d_xPen_aimByOneControl_16 : decode prog_5_method_7_code 16 = .ok (.laload, 1) := by decide +kernel
theorem d_xPen_aimByOneControl_17 : decode prog_5_method_7_code 17 = .ok (.putfield 61, 3) := by decide +kernel
theorem d_xPen_aimByOneControl_20 : decode prog_5_method_7_code 20 = .ok (.aload_n 0, 1) := by decide +kernel
theorem d_xPen_aimByOneControl_21 : decode prog_5_method_7_code 21 = .ok (.bipush 81, 2) := by decide +kernel
theorem d_xPen_aimByOneControl_23 : decode prog_5_method_7_code 23 = .ok (.putfield 32, 3) := by decide +kernel
theorem d_xPen_aimByOneControl_26 : decode prog_5_method_7_code 26 = .ok (.aload_n 0, 1) := by decide +kernel
theorem d_xPen_aimByOneControl_27 : decode prog_5_method_7_code 27 = .ok (.getfield 18, 3) := by decide +kernel
theorem d_xPen_aimByOneControl_30 : decode prog_5_method_7_code 30 = .ok (.iconst 4, 1) := by decide +kernel
theorem d_xPen_aimByOneControl_31 : decode prog_5_method_7_code 31 = .ok (.aload_n 0, 1) := by decide +kernel
theorem d_xPen_aimByOneControl_32 : decode prog_5_method_7_code 32 = .ok (.getfield 18, 3) := by decide +kernel
theorem d_xPen_aimByOneControl_35 : decode prog_5_method_7_code 35 = .ok (.iconst 2, 1) := by decide +kernel
theorem d_xPen_aimByOneControl_36 : decode prog_5_method_7_code 36 = .ok (.laload, 1) := by decide +kernel
theorem d_xPen_aimByOneControl_37 : decode prog_5_method_7_code 37 = .ok (.lastore, 1) := by decide +kernel
theorem d_xPen_aimByOneControl_38 : decode prog_5_method_7_code 38 = .ok (.aload_n 0, 1) := by decide +kernel
theorem d_xPen_aimByOneControl_39 : decode prog_5_method_7_code 39 = .ok (.getfield 18, 3) := by decide +kernel
theorem d_xPen_aimByOneControl_42 : decode prog_5_method_7_code 42 = .ok (.iconst 5, 1) := by decide +kernel
theorem d_xPen_aimByOneControl_43 : decode prog_5_method_7_code 43 = .ok (.aload_n 0, 1) := by decide +kernel
theorem d_xPen_aimByOneControl_44 : decode prog_5_method_7_code 44 = .ok (.getfield 18, 3) := by decide +kernel
theorem d_xPen_aimByOneControl_47 : decode prog_5_method_7_code 47 = .ok (.iconst 3, 1) := by decide +kernel
theorem d_xPen_aimByOneControl_48 : decode prog_5_method_7_code 48 = .ok (.laload, 1) := by decide +kernel
theorem d_xPen_aimByOneControl_49 : decode prog_5_method_7_code 49 = .ok (.lastore, 1) := by decide +kernel
theorem d_xPen_aimByOneControl_50 : decode prog_5_method_7_code 50 = .ok (.aload_n 0, 1) := by decide +kernel
theorem d_xPen_aimByOneControl_51 : decode prog_5_method_7_code 51 = .ok (.getfield 18, 3) := by decide +kernel
theorem d_xPen_aimByOneControl_54 : decode prog_5_method_7_code 54 = .ok (.iconst 0, 1) := by decide +kernel
theorem d_xPen_aimByOneControl_55 : decode prog_5_method_7_code 55 = .ok (.aload_n 0, 1) := by decide +kernel
theorem d_xPen_aimByOneControl_56 : decode prog_5_method_7_code 56 = .ok (.getfield 25, 3) := by decide +kernel
theorem d_xPen_aimByOneControl_59 : decode prog_5_method_7_code 59 = .ok (.ldc2_w 56, 3) := by decide +kernel
theorem d_xPen_aimByOneControl_62 : decode prog_5_method_7_code 62 = .ok (.aload_n 0, 1) := by decide +kernel
theorem d_xPen_aimByOneControl_63 : decode prog_5_method_7_code 63 = .ok (.getfield 58, 3) := by decide +kernel
theorem d_xPen_aimByOneControl_66 : decode prog_5_method_7_code 66 = .ok (.lmul, 1) := by decide +kernel
theorem d_xPen_aimByOneControl_67 : decode prog_5_method_7_code 67 = .ok (.ladd, 1) := by decide +kernel
theorem d_xPen_aimByOneControl_68 : decode prog_5_method_7_code 68 = .ok (.ldc2_w 64, 3) := by decide +kernel
theorem d_xPen_aimByOneControl_71 : decode prog_5_method_7_code 71 = .ok (.invokestatic 66, 3) := by decide +kernel
theorem d_xPen_aimByOneControl_74 : decode prog_5_method_7_code 74 = .ok (.lastore, 1) := by decide +kernel
theorem d_xPen_aimByOneControl_75 : decode prog_5_method_7_code 75 = .ok (.aload_n 0, 1) := by decide +kernel
theorem d_xPen_aimByOneControl_76 : decode prog_5_method_7_code 76 = .ok (.getfield 18, 3) := by decide +kernel
theorem d_xPen_aimByOneControl_79 : decode prog_5_method_7_code 79 = .ok (.iconst 1, 1) := by decide +kernel
theorem d_xPen_aimByOneControl_80 : decode prog_5_method_7_code 80 = .ok (.aload_n 0, 1) := by decide +kernel
theorem d_xPen_aimByOneControl_81 : decode prog_5_method_7_code 81 = .ok (.getfield 29, 3) := by decide +kernel
theorem d_xPen_aimByOneControl_84 : decode prog_5_method_7_code 84 = .ok (.ldc2_w 56, 3) := by decide +kernel
theorem d_xPen_aimByOneControl_87 : decode prog_5_method_7_code 87 = .ok (.aload_n 0, 1) := by decide +kernel
theorem d_xPen_aimByOneControl_88 : decode prog_5_method_7_code 88 = .ok (.getfield 61, 3) := by decide +kernel
theorem d_xPen_aimByOneControl_91 : decode prog_5_method_7_code 91 = .ok (.lmul, 1) := by decide +kernel
theorem d_xPen_aimByOneControl_92 : decode prog_5_method_7_code 92 = .ok (.ladd, 1) := by decide +kernel
theorem d_xPen_aimByOneControl_93 : decode prog_5_method_7_code 93 = .ok (.ldc2_w 64, 3) := by decide +kernel
theorem d_xPen_aimByOneControl_96 : decode prog_5_method_7_code 96 = .ok (.invokestatic 66, 3) := by decide +kernel
theorem d_xPen_aimByOneControl_99 : decode prog_5_method_7_code 99 = .ok (.lastore, 1) := by decide +kernel
theorem d_xPen_aimByOneControl_100 : decode prog_5_method_7_code 100 = .ok (.aload_n 0, 1) := by decide +kernel
theorem d_xPen_aimByOneControl_101 : decode prog_5_method_7_code 101 = .ok (.getfield 18, 3) := by decide +kernel
theorem d_xPen_aimByOneControl_104 : decode prog_5_method_7_code 104 = .ok (.iconst 2, 1) := by decide +kernel
theorem d_xPen_aimByOneControl_105 : decode prog_5_method_7_code 105 = .ok (.aload_n 0, 1) := by decide +kernel
theorem d_xPen_aimByOneControl_106 : decode prog_5_method_7_code 106 = .ok (.getfield 18, 3) := by decide +kernel
theorem d_xPen_aimByOneControl_109 : decode prog_5_method_7_code 109 = .ok (.iconst 4, 1) := by decide +kernel
theorem d_xPen_aimByOneControl_110 : decode prog_5_method_7_code 110 = .ok (.laload, 1) := by decide +kernel
theorem d_xPen_aimByOneControl_111 : decode prog_5_method_7_code 111 = .ok (.ldc2_w 56, 3) := by decide +kernel
theorem d_xPen_aimByOneControl_114 : decode prog_5_method_7_code 114 = .ok (.aload_n 0, 1) := by decide +kernel
theorem d_xPen_aimByOneControl_115 : decode prog_5_method_7_code 115 = .ok (.getfield 58, 3) := by decide +kernel
theorem d_xPen_aimByOneControl_118 : decode prog_5_method_7_code 118 = .ok (.lmul, 1) := by decide +kernel
theorem d_xPen_aimByOneControl_119 : decode prog_5_method_7_code 119 = .ok (.ladd, 1) := by decide +kernel
theorem d_xPen_aimByOneControl_120 : decode prog_5_method_7_code 120 = .ok (.ldc2_w 64, 3) := by decide +kernel
theorem d_xPen_aimByOneControl_123 : decode prog_5_method_7_code 123 = .ok (.invokestatic 66, 3) := by decide +kernel
theorem d_xPen_aimByOneControl_126 : decode prog_5_method_7_code 126 = .ok (.lastore, 1) := by decide +kernel
theorem d_xPen_aimByOneControl_127 : decode prog_5_method_7_code 127 = .ok (.aload_n 0, 1) := by decide +kernel
theorem d_xPen_aimByOneControl_128 : decode prog_5_method_7_code 128 = .ok (.getfield 18, 3) := by decide +kernel
theorem d_xPen_aimByOneControl_131 : decode prog_5_method_7_code 131 = .ok (.iconst 3, 1) := by decide +kernel
theorem d_xPen_aimByOneControl_132 : decode prog_5_method_7_code 132 = .ok (.aload_n 0, 1) := by decide +kernel
theorem d_xPen_aimByOneControl_133 : decode prog_5_method_7_code 133 = .ok (.getfield 18, 3) := by decide +kernel
theorem d_xPen_aimByOneControl_136 : decode prog_5_method_7_code 136 = .ok (.iconst 5, 1) := by decide +kernel
theorem d_xPen_aimByOneControl_137 : decode prog_5_method_7_code 137 = .ok (.laload, 1) := by decide +kernel
theorem d_xPen_aimByOneControl_138 : decode prog_5_method_7_code 138 = .ok (.ldc2_w 56, 3) := by decide +kernel
theorem d_xPen_aimByOneControl_141 : decode prog_5_method_7_code 141 = .ok (.aload_n 0, 1) := by decide +kernel
theorem d_xPen_aimByOneControl_142 : decode prog_5_method_7_code 142 = .ok (.getfield 61, 3) := by decide +kernel
theorem d_xPen_aimByOneControl_145 : decode prog_5_method_7_code 145 = .ok (.lmul, 1) := by decide +kernel
theorem d_xPen_aimByOneControl_146 : decode prog_5_method_7_code 146 = .ok (.ladd, 1) := by decide +kernel
theorem d_xPen_aimByOneControl_147 : decode prog_5_method_7_code 147 = .ok (.ldc2_w 64, 3) := by decide +kernel
theorem d_xPen_aimByOneControl_150 : decode prog_5_method_7_code 150 = .ok (.invokestatic 66, 3) := by decide +kernel
theorem d_xPen_aimByOneControl_153 : decode prog_5_method_7_code 153 = .ok (.lastore, 1) := by decide +kernel
theorem d_xPen_aimByOneControl_154 : decode prog_5_method_7_code 154 = .ok (.return_, 1) := by decide +kernel
theorem d_xPen_draw_0 : decode prog_5_method_8_code 0 = .ok (.iload_n 1, 1) := by decide +kernel
theorem d_xPen_draw_1 : decode prog_5_method_8_code 1 = .ok (.invokestatic 70, 3) := by decide +kernel
theorem d_xPen_draw_4 : decode prog_5_method_8_code 4 = .ok (.istore_n 3, 1) := by decide +kernel
theorem d_xPen_draw_5 : decode prog_5_method_8_code 5 = .ok (.iconst 0, 1) := by decide +kernel
theorem d_xPen_draw_6 : decode prog_5_method_8_code 6 = .ok (.istore 4, 2) := by decide +kernel
theorem d_xPen_draw_8 : decode prog_5_method_8_code 8 = .ok (.iload 4, 2) := by decide +kernel
theorem d_xPen_draw_10 : decode prog_5_method_8_code 10 = .ok (.iconst 1, 1) := by decide +kernel
theorem d_xPen_draw_11 : decode prog_5_method_8_code 11 = .ok (.iadd, 1) := by decide +kernel
theorem d_xPen_draw_12 : decode prog_5_method_8_code 12 = .ok (.iload_n 3, 1) := by decide +kernel
theorem d_xPen_draw_13 : decode prog_5_method_8_code 13 = .ok (.if_icmp .ge 108, 3) := by decide +kernel
theorem d_xPen_draw_16 : decode prog_5_method_8_code 16 = .ok (.iload 4, 2) := by decide +kernel
theorem d_xPen_draw_18 : decode prog_5_method_8_code 18 = .ok (.iconst 1, 1) := by decide +kernel
theorem d_xPen_draw_19 : decode prog_5_method_8_code 19 = .ok (.iadd, 1) := by decide +kernel
theorem d_xPen_draw_20 : decode prog_5_method_8_code 20 = .ok (.bipush 6, 2) := by decide +kernel
theorem d_xPen_draw_22 : decode prog_5_method_8_code 22 = .ok (.if_icmp .ge 99, 3) := by decide +kernel
theorem d_xPen_draw_25 : decode prog_5_method_8_code 25 = .ok (.aload_n 0, 1) := by decide +kernel
theorem d_xPen_draw_26 : decode prog_5_method_8_code 26 = .ok (.getfield 22, 3) := by decide +kernel
theorem d_xPen_draw_29 : decode prog_5_method_8_code 29 = .ok (.iload 4, 2) := by decide +kernel
theorem d_xPen_draw_31 : decode prog_5_method_8_code 31 = .ok (.aload_n 0, 1) := by decide +kernel
theorem d_xPen_draw_32 : decode prog_5_method_8_code 32 = .ok (.getfield 12, 3) := by decide +kernel
theorem d_xPen_draw_35 : decode prog_5_method_8_code 35 = .ok (.aload_n 0, 1) := by decide +kernel
theorem d_xPen_draw_36 : decode prog_5_method_8_code 36 = .ok (.getfield 18, 3) := by decide +kernel
theorem d_xPen_draw_39 : decode prog_5_method_8_code 39 = .ok (.iload 4, 2) := by decide +kernel
theorem d_xPen_draw_41 : decode prog_5_method_8_code 41 = .ok (.laload, 1) := by decide +kernel
theorem d_xPen_draw_42 : decode prog_5_method_8_code 42 = .ok (.aload_n 0, 1) := by decide +kernel
theorem d_xPen_draw_43 : decode prog_5_method_8_code 43 = .ok (.getfield 18, 3) := by decide +kernel
theorem d_xPen_draw_46 : decode prog_5_method_8_code 46 = .ok (.iload 4, 2) := by decide +kernel
theorem d_xPen_draw_48 : decode prog_5_method_8_code 48 = .ok (.iconst 1, 1) := by decide +kernel
theorem d_xPen_draw_49 : decode prog_5_method_8_code 49 = .ok (.iadd, 1) := by decide +kernel
theorem d_xPen_draw_50 : decode prog_5_method_8_code 50 = .ok (.laload, 1) := by decide +kernel
theorem d_xPen_draw_51 : decode prog_5_method_8_code 51 = .ok (.iconst 0, 1) := by decide +kernel
theorem d_xPen_draw_52 : decode prog_5_method_8_code 52 = .ok (.iconst 1, 1) := by decide +kernel
theorem d_xPen_draw_53 : decode prog_5_method_8_code 53 = .ok (.invokevirtual 74, 3) := by decide +kernel
theorem d_xPen_draw_56 : decode prog_5_method_8_code 56 = .ok (.lastore, 1) := by decide +kernel
theorem d_xPen_draw_57 : decode prog_5_method_8_code 57 = .ok (.aload_n 0, 1) := by decide +kernel
theorem d_xPen_draw_58 : decode prog_5_method_8_code 58 = .ok (.getfield 22, 3) := by decide +kernel
theorem d_xPen_draw_61 : decode prog_5_method_8_code 61 = .ok (.iload 4, 2) := by decide +kernel
theorem d_xPen_draw_63 : decode prog_5_method_8_code 63 = .ok (.iconst 1, 1) := by decide +kernel
theorem d_xPen_draw_64 : decode prog_5_method_8_code 64 = .ok (.iadd, 1) := by decide +kernel
theorem d_xPen_draw_65 : decode prog_5_method_8_code 65 = .ok (.aload_n 0, 1) := by decide +kernel
theorem d_xPen_draw_66 : decode prog_5_method_8_code 66 = .ok (.getfield 12, 3) := by decide +kernel
theorem d_xPen_draw_69 : decode prog_5_method_8_code 69 = .ok (.aload_n 0, 1) := by decide +kernel
theorem d_xPen_draw_70 : decode prog_5_method_8_code 70 = .ok (.getfield 18, 3) := by decide +kernel
theorem d_xPen_draw_73 : decode prog_5_method_8_code 73 = .ok (.iload 4, 2) := by decide +kernel
theorem d_xPen_draw_75 : decode prog_5_method_8_code 75 = .ok (.laload, 1) := by decide +kernel
theorem d_xPen_draw_76 : decode prog_5_method_8_code 76 = .ok (.aload_n 0, 1) := by decide +kernel
theorem d_xPen_draw_77 : decode prog_5_method_8_code 77 = .ok (.getfield 18, 3) := by decide +kernel
theorem d_xPen_draw_80 : decode prog_5_method_8_code 80 = .ok (.iload 4, 2) := by decide +kernel
theorem d_xPen_draw_82 : decode prog_5_method_8_code 82 = .ok (.iconst 1, 1) := by decide +kernel
theorem d_xPen_draw_83 : decode prog_5_method_8_code 83 = .ok (.iadd, 1) := by decide +kernel
theorem d_xPen_draw_84 : decode prog_5_method_8_code 84 = .ok (.laload, 1) := by decide +kernel
theorem d_xPen_draw_85 : decode prog_5_method_8_code 85 = .ok (.iconst 1, 1) := by decide +kernel
theorem d_xPen_draw_86 : decode prog_5_method_8_code 86 = .ok (.iconst 1, 1) := by decide +kernel
theorem d_xPen_draw_87 : decode prog_5_method_8_code 87 = .ok (.invokevirtual 74, 3) := by decide +kernel
theorem d_xPen_draw_90 : decode prog_5_method_8_code 90 = .ok (.lastore, 1) := by decide +kernel
theorem d_xPen_draw_91 : decode prog_5_method_8_code 91 = .ok (.aload_n 0, 1) := by decide +kernel
theorem d_xPen_draw_92 : decode prog_5_method_8_code 92 = .ok (.aload_n 0, 1) := by decide +kernel
theorem d_xPen_draw_93 : decode prog_5_method_8_code 93 = .ok (.getfield 18, 3) := by decide +kernel
theorem d_xPen_draw_96 : decode prog_5_method_8_code 96 = .ok (.iload 4, 2) := by decide +kernel
theorem d_xPen_draw_98 : decode prog_5_method_8_code 98 = .ok (.laload, 1) := by decide +kernel
theorem d_xPen_draw_99 : decode prog_5_method_8_code 99 = .ok (.putfield 25, 3) := by decide +kernel
theorem d_xPen_draw_102 : decode prog_5_method_8_code 102 = .ok (.aload_n 0, 1) := by decide +kernel
theorem d_xPen_draw_103 : decode prog_5_method_8_code 103 = .ok (.aload_n 0, 1) := by decide +kernel
theorem d_xPen_draw_104 : decode prog_5_method_8_code 104 = .ok (.getfield 18, 3) := by decide +kernel
theorem d_xPen_draw_107 : decode prog_5_method_8_code 107 = .ok (.iload 4, 2) := by decide +kernel
theorem d_xPen_draw_109 : decode prog_5_method_8_code 109 = .ok (.iconst 1, 1) := by decide +kernel
theorem d_xPen_draw_110 : decode prog_5_method_8_code 110 = .ok (.iadd, 1) := by decide +kernel
theorem d_xPen_draw_111 : decode prog_5_method_8_code 111 = .ok (.laload, 1) := by decide +kernel
theorem d_xPen_draw_112 : decode prog_5_method_8_code 112 = .ok (.putfield 29, 3) := by decide +kernel
theorem d_xPen_draw_115 : decode prog_5_method_8_code 115 = .ok (.iinc 4 2, 3) := by decide +kernel
theorem d_xPen_draw_118 : decode prog_5_method_8_code 118 = .ok (.goto (-110), 3) := by decide +kernel
theorem d_xPen_draw_121 : decode prog_5_method_8_code 121 = .ok (.iload_n 1, 1) := by decide +kernel
theorem d_xPen_draw_122 : decode prog_5_method_8_code 122 = .ok (.iconst 3, 1) := by decide +kernel
theorem d_xPen_draw_123 : decode prog_5_method_8_code 123 = .ok (.if_icmp .ne 19, 3) := by decide +kernel
theorem d_xPen_draw_126 : decode prog_5_method_8_code 126 = .ok (.aload_n 0, 1) := by decide +kernel
theorem d_xPen_draw_127 : decode prog_5_method_8_code 127 = .ok (.aload_n 0, 1) := by decide +kernel
theorem d_xPen_draw_128 : decode prog_5_method_8_code 128 = .ok (.getfield 40, 3) := by decide +kernel
theorem d_xPen_draw_131 : decode prog_5_method_8_code 131 = .ok (.putfield 25, 3) := by decide +kernel
theorem d_xPen_draw_134 : decode prog_5_method_8_code 134 = .ok (.aload_n 0, 1) := by decide +kernel
theorem d_xPen_draw_135 : decode prog_5_method_8_code 135 = .ok (.aload_n 0, 1) := by decide +kernel
theorem d_xPen_draw_136 : decode prog_5_method_8_code 136 = .ok (.getfield 43, 3) := by decide +kernel
theorem d_xPen_draw_139 : decode prog_5_method_8_code 139 = .ok (.putfield 29, 3) := by decide +kernel
theorem d_xPen_draw_142 : decode prog_5_method_8_code 142 = .ok (.aload_n 2, 1) := by decide +kernel
theorem d_xPen_draw_143 : decode prog_5_method_8_code 143 = .ok (.iload_n 1, 1) := by decide +kernel
theorem d_xPen_draw_144 : decode prog_5_method_8_code 144 = .ok (.aload_n 0, 1) := by decide +kernel
theorem d_xPen_draw_145 : decode prog_5_method_8_code 145 = .ok (.getfield 22, 3) := by decide +kernel
theorem d_xPen_draw_148 : decode prog_5_method_8_code 148 = .ok (.invokevirtual 78, 3) := by decide +kernel
theorem d_xPen_draw_151 : decode prog_5_method_8_code 151 = .ok (.ireturn, 1) := by decide +kernel
theorem d_xReader_passBracket_0 : decode prog_6_method_5_code 0 = .ok (.aload_n 0, 1) := by decide +kernel
theorem d_xReader_passBracket_1 : decode prog_6_method_5_code 1 = .ok (.iconst 1, 1) := by decide +kernel
theorem d_xReader_passBracket_2 : decode prog_6_method_5_code 2 = .ok (.putfield 47, 3) := by decide +kernel
theorem d_xReader_passBracket_5 : decode prog_6_method_5_code 5 = .ok (.aload_n 0, 1) := by decide +kernel
theorem d_xReader_passBracket_6 : decode prog_6_method_5_code 6 = .ok (.getfield 12, 3) := by decide +kernel
theorem d_xReader_passBracket_9 : decode prog_6_method_5_code 9 = .ok (.invokevirtual 41, 3) := by decide +kernel
theorem d_xReader_passBracket_12 : decode prog_6_method_5_code 12 = .ok (.return_, 1) := by decide +kernel
theorem d_xReader_numbersBehind_0 : decode prog_6_method_7_code 0 = .ok (.iload_n 0, 1) := by decide +kernel
theorem d_xReader_numbersBehind_1 : decode prog_6_method_7_code 1 = .ok (.tableswitch 122 67 90 #[119, 122, 122, 122, 122, 113, 122, 122, 122, 115, 115, 122, 122, 122, 117, 122, 117, 115, 122, 113, 122, 122, 122, 111], 111) := by decide +kernel
theorem d_xReader_numbersBehind_112 : decode prog_6_method_7_code 112 = .ok (.iconst 0, 1) := by decide +kernel
theorem d_xReader_numbersBehind_113 : decode prog_6_method_7_code 113 = .ok (.ireturn, 1) := by decide +kernel
theorem d_xReader_numbersBehind_114 : decode prog_6_method_7_code 114 = .ok (.iconst 1, 1) := by decide +kernel
theorem d_xReader_numbersBehind_115 : decode prog_6_method_7_code 115 = .ok (.ireturn, 1) := by decide +kernel
theorem d_xReader_numbersBehind_116 : decode prog_6_method_7_code 116 = .ok (.iconst 2, 1) := by decide +kernel
theorem d_xReader_numbersBehind_117 : decode prog_6_method_7_code 117 = .ok (.ireturn, 1) := by decide +kernel
theorem d_xReader_numbersBehind_118 : decode prog_6_method_7_code 118 = .ok (.iconst 4, 1) := by decide +kernel
theorem d_xReader_numbersBehind_119 : decode prog_6_method_7_code 119 = .ok (.ireturn, 1) := by decide +kernel
theorem d_xReader_numbersBehind_120 : decode prog_6_method_7_code 120 = .ok (.bipush 6, 2) := by decide +kernel
theorem d_xReader_numbersBehind_122 : decode prog_6_method_7_code 122 = .ok (.ireturn, 1) := by decide +kernel
theorem d_xReader_numbersBehind_123 : decode prog_6_method_7_code 123 = .ok (.iconst (-1), 1) := by decide +kernel
theorem d_xReader_numbersBehind_124 : decode prog_6_method_7_code 124 = .ok (.ireturn, 1) := by decide +kernel
theorem d_xReader_isDigit_0 : decode prog_6_method_11_code 0 = .ok (.iload_n 0, 1) := by decide +kernel
theorem d_xReader_isDigit_1 : decode prog_6_method_11_code 1 = .ok (.bipush 48, 2) := by decide +kernel
theorem d_xReader_isDigit_3 : decode prog_6_method_11_code 3 = .ok (.if_icmp .lt 13, 3) := by decide +kernel
theorem d_xReader_isDigit_6 : decode prog_6_method_11_code 6 = .ok (.iload_n 0, 1) := by decide +kernel
theorem d_xReader_isDigit_7 : decode prog_6_method_11_code 7 = .ok (.bipush 57, 2) := by decide +kernel
theorem d_xReader_isDigit_9 : decode prog_6_method_11_code 9 = .ok (.if_icmp .gt 7, 3) := by decide +kernel
theorem d_xReader_isDigit_12 : decode prog_6_method_11_code 12 = .ok (.iconst 1, 1) := by decide +kernel
theorem d_xReader_isDigit_13 : decode prog_6_method_11_code 13 = .ok (.goto 4, 3) := by decide +kernel
theorem d_xReader_isDigit_16 : decode prog_6_method_11_code 16 = .ok (.iconst 0, 1) := by decide +kernel
theorem d_xReader_isDigit_17 : decode prog_6_method_11_code 17 = .ok (.ireturn, 1) := by decide +kernel
theorem d_xReader_passBlanks_0 : decode prog_6_method_12_code 0 = .ok (.aload_n 0, 1) := by decide +kernel
theorem d_xReader_passBlanks_1 : decode prog_6_method_12_code 1 = .ok (.getfield 44, 3) := by decide +kernel
theorem d_xReader_passBlanks_4 : decode prog_6_method_12_code 4 = .ok (.aload_n 0, 1) := by decide +kernel
theorem d_xReader_passBlanks_5 : decode prog_6_method_12_code 5 = .ok (.getfield 22, 3) := by decide +kernel
theorem d_xReader_passBlanks_8 : decode prog_6_method_12_code 8 = .ok (.getfield 54, 3) := by decide +kernel
theorem d_xReader_passBlanks_11 : decode prog_6_method_12_code 11 = .ok (.if_icmp .ge 48, 3) := by decide +kernel
theorem d_xReader_passBlanks_14 : decode prog_6_method_12_code 14 = .ok (.aload_n 0, 1) := by decide +kernel
theorem d_xReader_passBlanks_15 : decode prog_6_method_12_code 15 = .ok (.getfield 22, 3) := by decide +kernel
theorem d_xReader_passBlanks_18 : decode prog_6_method_12_code 18 = .ok (.aload_n 0, 1) := by decide +kernel
theorem d_xReader_passBlanks_19 : decode prog_6_method_12_code 19 = .ok (.getfield 44, 3) := by decide +kernel
theorem d_xReader_passBlanks_22 : decode prog_6_method_12_code 22 = .ok (.invokevirtual 62, 3) := by decide +kernel
theorem d_xReader_passBlanks_25 : decode prog_6_method_12_code 25 = .ok (.bipush 32, 2) := by decide +kernel
theorem d_xReader_passBlanks_27 : decode prog_6_method_12_code 27 = .ok (.if_icmp .eq 19, 3) := by decide +kernel
theorem d_xReader_passBlanks_30 : decode prog_6_method_12_code 30 = .ok (.aload_n 0, 1) := by decide +kernel
theorem d_xReader_passBlanks_31 : decode prog_6_method_12_code 31 = .ok (.getfield 22, 3) := by decide +kernel
theorem d_xReader_passBlanks_34 : decode prog_6_method_12_code 34 = .ok (.aload_n 0, 1) := by decide +kernel
theorem d_xReader_passBlanks_35 : decode prog_6_method_12_code 35 = .ok (.getfield 44, 3) := by decide +kernel
theorem d_xReader_passBlanks_38 : decode prog_6_method_12_code 38 = .ok (.invokevirtual 62, 3) := by decide +kernel
theorem d_xReader_passBlanks_41 : decode prog_6_method_12_code 41 = .ok (.bipush 44, 2) := by decide +kernel
theorem d_xReader_passBlanks_43 : decode prog_6_method_12_code 43 = .ok (.if_icmp .ne 16, 3) := by decide +kernel
theorem d_xReader_passBlanks_46 : decode prog_6_method_12_code 46 = .ok (.aload_n 0, 1) := by decide +kernel
theorem d_xReader_passBlanks_47 : decode prog_6_method_12_code 47 = .ok (.dup, 1) := by decide +kernel
theorem d_xReader_passBlanks_48 : decode prog_6_method_12_code 48 = .ok (.getfield 44, 3) := by decide +kernel
theorem d_xReader_passBlanks_51 : decode prog_6_method_12_code 51 = .ok (.iconst 1, 1) := by decide +kernel
theorem d_xReader_passBlanks_52 : decode prog_6_method_12_code 52 = .ok (.iadd, 1) := by decide +kernel
theorem d_xReader_passBlanks_53 : decode prog_6_method_12_code 53 = .ok (.putfield 44, 3) := by decide +kernel
theorem d_xReader_passBlanks_56 : decode prog_6_method_12_code 56 = .ok (.goto (-56), 3) := by decide +kernel
theorem d_xReader_passBlanks_59 : decode prog_6_method_12_code 59 = .ok (.return_, 1) := by decide +kernel
theorem d_xReader_seeWrong_0 : decode prog_6_method_13_code 0 = .ok (.aload_n 0, 1) := by decide +kernel
theorem d_xReader_seeWrong_1 : decode prog_6_method_13_code 1 = .ok (.iload_n 1, 1) := by decide +kernel
theorem d_xReader_seeWrong_2 : decode prog_6_method_13_code 2 = .ok (.putfield 76, 3) := by decide +kernel
theorem d_xReader_seeWrong_5 : decode prog_6_method_13_code 5 = .ok (.iconst 0, 1) := by decide +kernel
theorem d_xReader_seeWrong_6 : decode prog_6_method_13_code 6 = .ok (.ireturn, 1) := by decide +kernel
theorem d_xWriter_letterOf_0 : decode prog_8_method_3_code 0 = .ok (.iload_n 0, 1) := by decide +kernel
theorem d_xWriter_letterOf_1 : decode prog_8_method_3_code 1 = .ok (.tableswitch 36 0 2 #[27, 30, 33], 27) := by decide +kernel
theorem d_xWriter_letterOf_28 : decode prog_8_method_3_code 28 = .ok (.bipush 77, 2) := by decide +kernel
theorem d_xWriter_letterOf_30 : decode prog_8_method_3_code 30 = .ok (.ireturn, 1) := by decide +kernel
theorem d_xWriter_letterOf_31 : decode prog_8_method_3_code 31 = .ok (.bipush 76, 2) := by decide +kernel
theorem d_xWriter_letterOf_33 : decode prog_8_method_3_code 33 = .ok (.ireturn, 1) := by decide +kernel
theorem d_xWriter_letterOf_34 : decode prog_8_method_3_code 34 = .ok (.bipush 67, 2) := by decide +kernel
theorem d_xWriter_letterOf_36 : decode prog_8_method_3_code 36 = .ok (.ireturn, 1) := by decide +kernel
theorem d_xWriter_letterOf_37 : decode prog_8_method_3_code 37 = .ok (.bipush 90, 2) := by decide +kernel
theorem d_xWriter_letterOf_39 : decode prog_8_method_3_code 39 = .ok (.ireturn, 1) := by decide +kernel
theorem d_xWriter_tens_0 : decode prog_8_method_7_code 0 = .ok (.iload_n 0, 1) := by decide +kernel
theorem d_xWriter_tens_1 : decode prog_8_method_7_code 1 = .ok (.ifCond .lt 11, 3) := by decide +kernel
theorem d_xWriter_tens_4 : decode prog_8_method_7_code 4 = .ok (.iload_n 0, 1) := by decide +kernel
theorem d_xWriter_tens_5 : decode prog_8_method_7_code 5 = .ok (.getstatic 80, 3) := by decide +kernel
theorem d_xWriter_tens_8 : decode prog_8_method_7_code 8 = .ok (.arraylength, 1) := by decide +kernel
theorem d_xWriter_tens_9 : decode prog_8_method_7_code 9 = .ok (.if_icmp .lt 7, 3) := by decide +kernel
theorem d_xWriter_tens_12 : decode prog_8_method_7_code 12 = .ok (.lconst 1, 1) := by decide +kernel
theorem d_xWriter_tens_13 : decode prog_8_method_7_code 13 = .ok (.goto 8, 3) := by decide +kernel
theorem d_xWriter_tens_16 : decode prog_8_method_7_code 16 = .ok (.getstatic 80, 3) := by decide +kernel
theorem d_xWriter_tens_19 : decode prog_8_method_7_code 19 = .ok (.iload_n 0, 1) := by decide +kernel
theorem d_xWriter_tens_20 : decode prog_8_method_7_code 20 = .ok (.laload, 1) := by decide +kernel
theorem d_xWriter_tens_21 : decode prog_8_method_7_code 21 = .ok (.lreturn, 1) := by decide +kernel
theorem d_xWriter_putDigits_0 : decode prog_8_method_9_code 0 = .ok (.iload_n 2, 1) := by decide +kernel
theorem d_xWriter_putDigits_1 : decode prog_8_method_9_code 1 = .ok (.iconst 1, 1) := by decide +kernel
theorem d_xWriter_putDigits_2 : decode prog_8_method_9_code 2 = .ok (.isub, 1) := by decide +kernel
theorem d_xWriter_putDigits_3 : decode prog_8_method_9_code 3 = .ok (.istore 4, 2) := by decide +kernel
theorem d_xWriter_putDigits_5 : decode prog_8_method_9_code 5 = .ok (.iload 4, 2) := by decide +kernel
theorem d_xWriter_putDigits_7 : decode prog_8_method_9_code 7 = .ok (.ifCond .lt 29, 3) := by decide +kernel
theorem d_xWriter_putDigits_10 : decode prog_8_method_9_code 10 = .ok (.aload_n 3, 1) := by decide +kernel
theorem d_xWriter_putDigits_11 : decode prog_8_method_9_code 11 = .ok (.ldc2_w 84, 3) := by decide +kernel
theorem d_xWriter_putDigits_14 : decode prog_8_method_9_code 14 = .ok (.lload_n 0, 1) := by decide +kernel
theorem d_xWriter_putDigits_15 : decode prog_8_method_9_code 15 = .ok (.iload 4, 2) := by decide +kernel
theorem d_xWriter_putDigits_17 : decode prog_8_method_9_code 17 = .ok (.invokestatic 53, 3) := by decide +kernel
theorem d_xWriter_putDigits_20 : decode prog_8_method_9_code 20 = .ok (.ldiv, 1) := by decide +kernel
theorem d_xWriter_putDigits_21 : decode prog_8_method_9_code 21 = .ok (.ldc2_w 86, 3) := by decide +kernel
theorem d_xWriter_putDigits_24 : decode prog_8_method_9_code 24 = .ok (.lrem, 1) := by decide +kernel
theorem d_xWriter_putDigits_25 : decode prog_8_method_9_code 25 = .ok (.ladd, 1) := by decide +kernel
theorem d_xWriter_putDigits_26 : decode prog_8_method_9_code 26 = .ok (.l2i, 1) := by decide +kernel
theorem d_xWriter_putDigits_27 : decode prog_8_method_9_code 27 = .ok (.invokevirtual 30, 3) := by decide +kernel
theorem d_xWriter_putDigits_30 : decode prog_8_method_9_code 30 = .ok (.iinc 4 (-1), 3) := by decide +kernel
theorem d_xWriter_putDigits_33 : decode prog_8_method_9_code 33 = .ok (.goto (-28), 3) := by decide +kernel
theorem d_xWriter_putDigits_36 : decode prog_8_method_9_code 36 = .ok (.return_, 1) := by decide +kernel
theorem d_xCover_onCurve_0 : decode prog_2_method_5_code 0 = .ok (.ldc2_w 79, 3) := by decide +kernel
theorem d_xCover_onCurve_3 : decode prog_2_method_5_code 3 = .ok (.lload 8, 2) := by decide +kernel
theorem d_xCover_onCurve_5 : decode prog_2_method_5_code 5 = .ok (.lsub, 1) := by decide +kernel
theorem d_xCover_onCurve_6 : decode prog_2_method_5_code 6 = .ok (.lstore 10, 2) := by decide +kernel
theorem d_xCover_onCurve_8 : decode prog_2_method_5_code 8 = .ok (.lload_n 0, 1) := by decide +kernel
theorem d_xCover_onCurve_9 : decode prog_2_method_5_code 9 = .ok (.lload 10, 2) := by decide +kernel
theorem d_xCover_onCurve_11 : decode prog_2_method_5_code 11 = .ok (.lmul, 1) := by decide +kernel
theorem d_xCover_onCurve_12 : decode prog_2_method_5_code 12 = .ok (.lload 10, 2) := by decide +kernel
theorem d_xCover_onCurve_14 : decode prog_2_method_5_code 14 = .ok (.lmul, 1) := by decide +kernel
theorem d_xCover_onCurve_15 : decode prog_2_method_5_code 15 = .ok (.lload 10, 2) := by decide +kernel
theorem d_xCover_onCurve_17 : decode prog_2_method_5_code 17 = .ok (.lmul, 1) := by decide +kernel
theorem d_xCover_onCurve_18 : decode prog_2_method_5_code 18 = .ok (.ldc2_w 81, 3) := by decide +kernel
theorem d_xCover_onCurve_21 : decode prog_2_method_5_code 21 = .ok (.lload_n 2, 1) := by decide +kernel
theorem d_xCover_onCurve_22 : decode prog_2_method_5_code 22 = .ok (.lmul, 1) := by decide +kernel
theorem d_xCover_onCurve_23 : decode prog_2_method_5_code 23 = .ok (.lload 10, 2) := by decide +kernel
theorem d_xCover_onCurve_25 : decode prog_2_method_5_code 25 = .ok (.lmul, 1) := by decide +kernel
theorem d_xCover_onCurve_26 : decode prog_2_method_5_code 26 = .ok (.lload 10, 2) := by decide +kernel
theorem d_xCover_onCurve_28 : decode prog_2_method_5_code 28 = .ok (.lmul, 1) := by decide +kernel
theorem d_xCover_onCurve_29 : decode prog_2_method_5_code 29 = .ok (.lload 8, 2) := by decide +kernel
theorem d_xCover_onCurve_31 : decode prog_2_method_5_code 31 = .ok (.lmul, 1) := by decide +kernel
theorem d_xCover_onCurve_32 : decode prog_2_method_5_code 32 = .ok (.ladd, 1) := by decide +kernel
theorem d_xCover_onCurve_33 : decode prog_2_method_5_code 33 = .ok (.ldc2_w 81, 3) := by decide +kernel
theorem d_xCover_onCurve_36 : decode prog_2_method_5_code 36 = .ok (.lload 4, 2) := by decide +kernel
theorem d_xCover_onCurve_38 : decode prog_2_method_5_code 38 = .ok (.lmul, 1) := by decide +kernel
theorem d_xCover_onCurve_39 : decode prog_2_method_5_code 39 = .ok (.lload 10, 2) := by decide +kernel
theorem d_xCover_onCurve_41 : decode prog_2_method_5_code 41 = .ok (.lmul, 1) := by decide +kernel
theorem d_xCover_onCurve_42 : decode prog_2_method_5_code 42 = .ok (.lload 8, 2) := by decide +kernel
theorem d_xCover_onCurve_44 : decode prog_2_method_5_code 44 = .ok (.lmul, 1) := by decide +kernel
theorem d_xCover_onCurve_45 : decode prog_2_method_5_code 45 = .ok (.lload 8, 2) := by decide +kernel
theorem d_xCover_onCurve_47 : decode prog_2_method_5_code 47 = .ok (.lmul, 1) := by decide +kernel
theorem d_xCover_onCurve_48 : decode prog_2_method_5_code 48 = .ok (.ladd, 1) := by decide +kernel
theorem d_xCover_onCurve_49 : decode prog_2_method_5_code 49 = .ok (.lload 6, 2) := by decide +kernel
theorem d_xCover_onCurve_51 : decode prog_2_method_5_code 51 = .ok (.lload 8, 2) := by decide +kernel
theorem d_xCover_onCurve_53 : decode prog_2_method_5_code 53 = .ok (.lmul, 1) := by decide +kernel
theorem d_xCover_onCurve_54 : decode prog_2_method_5_code 54 = .ok (.lload 8, 2) := by decide +kernel
theorem d_xCover_onCurve_56 : decode prog_2_method_5_code 56 = .ok (.lmul, 1) := by decide +kernel
theorem d_xCover_onCurve_57 : decode prog_2_method_5_code 57 = .ok (.lload 8, 2) := by decide +kernel
theorem d_xCover_onCurve_59 : decode prog_2_method_5_code 59 = .ok (.lmul, 1) := by decide +kernel
theorem d_xCover_onCurve_60 : decode prog_2_method_5_code 60 = .ok (.ladd, 1) := by decide +kernel
theorem d_xCover_onCurve_61 : decode prog_2_method_5_code 61 = .ok (.lstore 12, 2) := by decide +kernel
theorem d_xCover_onCurve_63 : decode prog_2_method_5_code 63 = .ok (.lload 12, 2) := by decide +kernel
theorem d_xCover_onCurve_65 : decode prog_2_method_5_code 65 = .ok (.ldc2_w 83, 3) := by decide +kernel
theorem d_xCover_onCurve_68 : decode prog_2_method_5_code 68 = .ok (.invokestatic 85, 3) := by decide +kernel
theorem d_xCover_onCurve_71 : decode prog_2_method_5_code 71 = .ok (.lreturn, 1) := by decide +kernel
theorem d_xCover_firstPointFrom_0 : decode prog_2_method_8_code 0 = .ok (.lload_n 0, 1) := by decide +kernel
theorem d_xCover_firstPointFrom_1 : decode prog_2_method_8_code 1 = .ok (.ldc2_w 104, 3) := by decide +kernel
theorem d_xCover_firstPointFrom_4 : decode prog_2_method_8_code 4 = .ok (.ladd, 1) := by decide +kernel
theorem d_xCover_firstPointFrom_5 : decode prog_2_method_8_code 5 = .ok (.iconst 4, 1) := by decide +kernel
theorem d_xCover_firstPointFrom_6 : decode prog_2_method_8_code 6 = .ok (.lshr, 1) := by decide +kernel
theorem d_xCover_firstPointFrom_7 : decode prog_2_method_8_code 7 = .ok (.lstore_n 3, 1) := by decide +kernel
theorem d_xCover_firstPointFrom_8 : decode prog_2_method_8_code 8 = .ok (.lload_n 3, 1) := by decide +kernel
theorem d_xCover_firstPointFrom_9 : decode prog_2_method_8_code 9 = .ok (.lconst 0, 1) := by decide +kernel
theorem d_xCover_firstPointFrom_10 : decode prog_2_method_8_code 10 = .ok (.lcmp, 1) := by decide +kernel
theorem d_xCover_firstPointFrom_11 : decode prog_2_method_8_code 11 = .ok (.ifCond .ge 7, 3) := by decide +kernel
theorem d_xCover_firstPointFrom_14 : decode prog_2_method_8_code 14 = .ok (.iconst 0, 1) := by decide +kernel
theorem d_xCover_firstPointFrom_15 : decode prog_2_method_8_code 15 = .ok (.goto 16, 3) := by decide +kernel
theorem d_xCover_firstPointFrom_18 : decode prog_2_method_8_code 18 = .ok (.lload_n 3, 1) := by decide +kernel
theorem d_xCover_firstPointFrom_19 : decode prog_2_method_8_code 19 = .ok (.iload_n 2, 1) := by decide +kernel
theorem d_xCover_firstPointFrom_20 : decode prog_2_method_8_code 20 = .ok (.i2l, 1) := by decide +kernel
theorem d_xCover_firstPointFrom_21 : decode prog_2_method_8_code 21 = .ok (.lcmp, 1) := by decide +kernel
theorem d_xCover_firstPointFrom_22 : decode prog_2_method_8_code 22 = .ok (.ifCond .le 7, 3) := by decide +kernel
theorem d_xCover_firstPointFrom_25 : decode prog_2_method_8_code 25 = .ok (.iload_n 2, 1) := by decide +kernel
theorem d_xCover_firstPointFrom_26 : decode prog_2_method_8_code 26 = .ok (.goto 5, 3) := by decide +kernel
theorem d_xCover_firstPointFrom_29 : decode prog_2_method_8_code 29 = .ok (.lload_n 3, 1) := by decide +kernel
theorem d_xCover_firstPointFrom_30 : decode prog_2_method_8_code 30 = .ok (.l2i, 1) := by decide +kernel
theorem d_xCover_firstPointFrom_31 : decode prog_2_method_8_code 31 = .ok (.ireturn, 1) := by decide +kernel
theorem d_xCover_countPoints_0 : decode prog_2_method_9_code 0 = .ok (.iconst 0, 1) := by decide +kernel
theorem d_xCover_countPoints_1 : decode prog_2_method_9_code 1 = .ok (.istore_n 3, 1) := by decide +kernel
theorem d_xCover_countPoints_2 : decode prog_2_method_9_code 2 = .ok (.iconst 0, 1) := by decide +kernel
theorem d_xCover_countPoints_3 : decode prog_2_method_9_code 3 = .ok (.istore 4, 2) := by decide +kernel
theorem d_xCover_countPoints_5 : decode prog_2_method_9_code 5 = .ok (.iload 4, 2) := by decide +kernel
theorem d_xCover_countPoints_7 : decode prog_2_method_9_code 7 = .ok (.bipush 16, 2) := by decide +kernel
theorem d_xCover_countPoints_9 : decode prog_2_method_9_code 9 = .ok (.if_icmp .ge 101, 3) := by decide +kernel
theorem d_xCover_countPoints_12 : decode prog_2_method_9_code 12 = .ok (.iconst 0, 1) := by decide +kernel
theorem d_xCover_countPoints_13 : decode prog_2_method_9_code 13 = .ok (.istore 5, 2) := by decide +kernel
theorem d_xCover_countPoints_15 : decode prog_2_method_9_code 15 = .ok (.iconst 0, 1) := by decide +kernel
theorem d_xCover_countPoints_16 : decode prog_2_method_9_code 16 = .ok (.istore 6, 2) := by decide +kernel
theorem d_xCover_countPoints_18 : decode prog_2_method_9_code 18 = .ok (.iload 6, 2) := by decide +kernel
theorem d_xCover_countPoints_20 : decode prog_2_method_9_code 20 = .ok (.aload_n 0, 1) := by decide +kernel
theorem d_xCover_countPoints_21 : decode prog_2_method_9_code 21 = .ok (.getfield 18, 3) := by decide +kernel
theorem d_xCover_countPoints_24 : decode prog_2_method_9_code 24 = .ok (.bipush 16, 2) := by decide +kernel
theorem d_xCover_countPoints_26 : decode prog_2_method_9_code 26 = .ok (.imul, 1) := by decide +kernel
theorem d_xCover_countPoints_27 : decode prog_2_method_9_code 27 = .ok (.if_icmp .ge 77, 3) := by decide +kernel
theorem d_xCover_countPoints_30 : decode prog_2_method_9_code 30 = .ok (.iload 6, 2) := by decide +kernel
theorem d_xCover_countPoints_32 : decode prog_2_method_9_code 32 = .ok (.sipush 128, 3) := by decide +kernel
theorem d_xCover_countPoints_35 : decode prog_2_method_9_code 35 = .ok (.if_icmp .ge 69, 3) := by decide +kernel
theorem d_xCover_countPoints_38 : decode prog_2_method_9_code 38 = .ok (.iload 5, 2) := by decide +kernel
theorem d_xCover_countPoints_40 : decode prog_2_method_9_code 40 = .ok (.aload_n 0, 1) := by decide +kernel
theorem d_xCover_countPoints_41 : decode prog_2_method_9_code 41 = .ok (.getfield 15, 3) := by decide +kernel
theorem d_xCover_countPoints_44 : decode prog_2_method_9_code 44 = .ok (.iload 4, 2) := by decide +kernel
theorem d_xCover_countPoints_46 : decode prog_2_method_9_code 46 = .ok (.sipush 128, 3) := by decide +kernel
theorem d_xCover_countPoints_49 : decode prog_2_method_9_code 49 = .ok (.imul, 1) := by decide +kernel
theorem d_xCover_countPoints_50 : decode prog_2_method_9_code 50 = .ok (.iload 6, 2) := by decide +kernel
theorem d_xCover_countPoints_52 : decode prog_2_method_9_code 52 = .ok (.iadd, 1) := by decide +kernel
theorem d_xCover_countPoints_53 : decode prog_2_method_9_code 53 = .ok (.iaload, 1) := by decide +kernel
theorem d_xCover_countPoints_54 : decode prog_2_method_9_code 54 = .ok (.iadd, 1) := by decide +kernel
theorem d_xCover_countPoints_55 : decode prog_2_method_9_code 55 = .ok (.istore 5, 2) := by decide +kernel
theorem d_xCover_countPoints_57 : decode prog_2_method_9_code 57 = .ok (.iload_n 2, 1) := by decide +kernel
theorem d_xCover_countPoints_58 : decode prog_2_method_9_code 58 = .ok (.ifCond .ne 11, 3) := by decide +kernel
theorem d_xCover_countPoints_61 : decode prog_2_method_9_code 61 = .ok (.iload 5, 2) := by decide +kernel
theorem d_xCover_countPoints_63 : decode prog_2_method_9_code 63 = .ok (.ifCond .eq 35, 3) := by decide +kernel
theorem d_xCover_countPoints_66 : decode prog_2_method_9_code 66 = .ok (.goto 10, 3) := by decide +kernel
theorem d_xCover_countPoints_69 : decode prog_2_method_9_code 69 = .ok (.iload 5, 2) := by decide +kernel
theorem d_xCover_countPoints_71 : decode prog_2_method_9_code 71 = .ok (.iconst 2, 1) := by decide +kernel
theorem d_xCover_countPoints_72 : decode prog_2_method_9_code 72 = .ok (.irem, 1) := by decide +kernel
theorem d_xCover_countPoints_73 : decode prog_2_method_9_code 73 = .ok (.ifCond .eq 25, 3) := by decide +kernel
theorem d_xCover_countPoints_76 : decode prog_2_method_9_code 76 = .ok (.aload_n 0, 1) := by decide +kernel
theorem d_xCover_countPoints_77 : decode prog_2_method_9_code 77 = .ok (.getfield 9, 3) := by decide +kernel
theorem d_xCover_countPoints_80 : decode prog_2_method_9_code 80 = .ok (.iload_n 1, 1) := by decide +kernel
theorem d_xCover_countPoints_81 : decode prog_2_method_9_code 81 = .ok (.bipush 8, 2) := by decide +kernel
theorem d_xCover_countPoints_83 : decode prog_2_method_9_code 83 = .ok (.imul, 1) := by decide +kernel
theorem d_xCover_countPoints_84 : decode prog_2_method_9_code 84 = .ok (.iload 6, 2) := by decide +kernel
theorem d_xCover_countPoints_86 : decode prog_2_method_9_code 86 = .ok (.bipush 16, 2) := by decide +kernel
theorem d_xCover_countPoints_88 : decode prog_2_method_9_code 88 = .ok (.idiv, 1) := by decide +kernel
theorem d_xCover_countPoints_89 : decode prog_2_method_9_code 89 = .ok (.iadd, 1) := by decide +kernel
theorem d_xCover_countPoints_90 : decode prog_2_method_9_code 90 = .ok (.dup2, 1) := by decide +kernel
theorem d_xCover_countPoints_91 : decode prog_2_method_9_code 91 = .ok (.iaload, 1) := by decide +kernel
theorem d_xCover_countPoints_92 : decode prog_2_method_9_code 92 = .ok (.iconst 1, 1) := by decide +kernel
theorem d_xCover_countPoints_93 : decode prog_2_method_9_code 93 = .ok (.iadd, 1) := by decide +kernel
theorem d_xCover_countPoints_94 : decode prog_2_method_9_code 94 = .ok (.iastore, 1) := by decide +kernel
theorem d_xCover_countPoints_95 : decode prog_2_method_9_code 95 = .ok (.iinc 3 1, 3) := by decide +kernel
theorem d_xCover_countPoints_98 : decode prog_2_method_9_code 98 = .ok (.iinc 6 1, 3) := by decide +kernel
theorem d_xCover_countPoints_101 : decode prog_2_method_9_code 101 = .ok (.goto (-83), 3) := by decide +kernel
theorem d_xCover_countPoints_104 : decode prog_2_method_9_code 104 = .ok (.iinc 4 1, 3) := by decide +kernel
theorem d_xCover_countPoints_107 : decode prog_2_method_9_code 107 = .ok (.goto (-102), 3) := by decide +kernel
theorem d_xCover_countPoints_110 : decode prog_2_method_9_code 110 = .ok (.iload_n 3, 1) := by decide +kernel
theorem d_xCover_countPoints_111 : decode prog_2_method_9_code 111 = .ok (.ireturn, 1) := by decide +kernel
theorem d_xP_text_0 : decode prog_1_method_2_code 0 = .ok (.iconst 0, 1) := by decide +kernel
theorem d_xP_text_1 : decode prog_1_method_2_code 1 = .ok (.istore_n 3, 1) := by decide +kernel
theorem d_xP_text_2 : decode prog_1_method_2_code 2 = .ok (.iconst 0, 1) := by decide +kernel
theorem d_xP_text_3 : decode prog_1_method_2_code 3 = .ok (.istore 4, 2) := by decide +kernel
theorem d_xP_text_5 : decode prog_1_method_2_code 5 = .ok (.iload 4, 2) := by decide +kernel
theorem d_xP_text_7 : decode prog_1_method_2_code 7 = .ok (.bipush 8, 2) := by decide +kernel
theorem d_xP_text_9 : decode prog_1_method_2_code 9 = .ok (.if_icmp .ge 49, 3) := by decide +kernel
theorem d_xP_text_12 : decode prog_1_method_2_code 12 = .ok (.lload_n 1, 1) := by decide +kernel
theorem d_xP_text_13 : decode prog_1_method_2_code 13 = .ok (.iload 4, 2) := by decide +kernel
theorem d_xP_text_15 : decode prog_1_method_2_code 15 = .ok (.invokestatic 51, 3) := by decide +kernel
theorem d_xP_text_18 : decode prog_1_method_2_code 18 = .ok (.istore 5, 2) := by decide +kernel
theorem d_xP_text_20 : decode prog_1_method_2_code 20 = .ok (.iload 5, 2) := by decide +kernel
theorem d_xP_text_22 : decode prog_1_method_2_code 22 = .ok (.ifCond .eq 30, 3) := by decide +kernel
theorem d_xP_text_25 : decode prog_1_method_2_code 25 = .ok (.iload 5, 2) := by decide +kernel
theorem d_xP_text_27 : decode prog_1_method_2_code 27 = .ok (.bipush 32, 2) := by decide +kernel
theorem d_xP_text_29 : decode prog_1_method_2_code 29 = .ok (.if_icmp .lt 10, 3) := by decide +kernel
theorem d_xP_text_32 : decode prog_1_method_2_code 32 = .ok (.iload 5, 2) := by decide +kernel
theorem d_xP_text_34 : decode prog_1_method_2_code 34 = .ok (.bipush 126, 2) := by decide +kernel
theorem d_xP_text_36 : decode prog_1_method_2_code 36 = .ok (.if_icmp .le 13, 3) := by decide +kernel
theorem d_xP_text_39 : decode prog_1_method_2_code 39 = .ok (.new 55, 3) := by decide +kernel
theorem d_xP_text_42 : decode prog_1_method_2_code 42 = .ok (.dup, 1) := by decide +kernel
theorem d_xP_text_43 : decode prog_1_method_2_code 43 = .ok (.ldc 57, 2) := by decide +kernel
theorem d_xP_text_45 : decode prog_1_method_2_code 45 = .ok (.invokespecial 59, 3) := by decide +kernel
theorem d_xP_text_48 : decode prog_1_method_2_code 48 = .ok (.athrow, 1) := by decide +kernel
theorem d_xP_text_49 : decode prog_1_method_2_code 49 = .ok (.iinc 3 1, 3) := by decide +kernel
theorem d_xP_text_52 : decode prog_1_method_2_code 52 = .ok (.iinc 4 1, 3) := by decide +kernel
theorem d_xP_text_55 : decode prog_1_method_2_code 55 = .ok (.goto (-50), 3) := by decide +kernel
theorem d_xP_text_58 : decode prog_1_method_2_code 58 = .ok (.aload_n 0, 1) := by decide +kernel
theorem d_xP_text_59 : decode prog_1_method_2_code 59 = .ok (.getfield 14, 3) := by decide +kernel
theorem d_xP_text_62 : decode prog_1_method_2_code 62 = .ok (.getfield 62, 3) := by decide +kernel
theorem d_xP_text_65 : decode prog_1_method_2_code 65 = .ok (.iload_n 3, 1) := by decide +kernel
theorem d_xP_text_66 : decode prog_1_method_2_code 66 = .ok (.iadd, 1) := by decide +kernel
theorem d_xP_text_67 : decode prog_1_method_2_code 67 = .ok (.sipush 1200, 3) := by decide +kernel
theorem d_xP_text_70 : decode prog_1_method_2_code 70 = .ok (.if_icmp .le 13, 3) := by decide +kernel
theorem d_xP_text_73 : decode prog_1_method_2_code 73 = .ok (.new 66, 3) := by decide +kernel
theorem d_xP_text_76 : decode prog_1_method_2_code 76 = .ok (.dup, 1) := by decide +kernel
theorem d_xP_text_77 : decode prog_1_method_2_code 77 = .ok (.ldc 68, 2) := by decide +kernel
theorem d_xP_text_79 : decode prog_1_method_2_code 79 = .ok (.invokespecial 70, 3) := by decide +kernel
theorem d_xP_text_82 : decode prog_1_method_2_code 82 = .ok (.athrow, 1) := by decide +kernel
theorem d_xP_text_83 : decode prog_1_method_2_code 83 = .ok (.iconst 0, 1) := by decide +kernel
theorem d_xP_text_84 : decode prog_1_method_2_code 84 = .ok (.istore 4, 2) := by decide +kernel
theorem d_xP_text_86 : decode prog_1_method_2_code 86 = .ok (.iload 4, 2) := by decide +kernel
theorem d_xP_text_88 : decode prog_1_method_2_code 88 = .ok (.bipush 8, 2) := by decide +kernel
theorem d_xP_text_90 : decode prog_1_method_2_code 90 = .ok (.if_icmp .ge 31, 3) := by decide +kernel
theorem d_xP_text_93 : decode prog_1_method_2_code 93 = .ok (.lload_n 1, 1) := by decide +kernel
theorem d_xP_text_94 : decode prog_1_method_2_code 94 = .ok (.iload 4, 2) := by decide +kernel
theorem d_xP_text_96 : decode prog_1_method_2_code 96 = .ok (.invokestatic 51, 3) := by decide +kernel
theorem d_xP_text_99 : decode prog_1_method_2_code 99 = .ok (.istore 5, 2) := by decide +kernel
theorem d_xP_text_101 : decode prog_1_method_2_code 101 = .ok (.iload 5, 2) := by decide +kernel
theorem d_xP_text_103 : decode prog_1_method_2_code 103 = .ok (.ifCond .eq 12, 3) := by decide +kernel
theorem d_xP_text_106 : decode prog_1_method_2_code 106 = .ok (.aload_n 0, 1) := by decide +kernel
theorem d_xP_text_107 : decode prog_1_method_2_code 107 = .ok (.getfield 14, 3) := by decide +kernel
theorem d_xP_text_110 : decode prog_1_method_2_code 110 = .ok (.iload 5, 2) := by decide +kernel
theorem d_xP_text_112 : decode prog_1_method_2_code 112 = .ok (.invokevirtual 71, 3) := by decide +kernel
theorem d_xP_text_115 : decode prog_1_method_2_code 115 = .ok (.iinc 4 1, 3) := by decide +kernel
theorem d_xP_text_118 : decode prog_1_method_2_code 118 = .ok (.goto (-32), 3) := by decide +kernel
theorem d_xP_text_121 : decode prog_1_method_2_code 121 = .ok (.aload_n 0, 1) := by decide +kernel
theorem d_xP_text_122 : decode prog_1_method_2_code 122 = .ok (.getfield 14, 3) := by decide +kernel
theorem d_xP_text_125 : decode prog_1_method_2_code 125 = .ok (.getfield 62, 3) := by decide +kernel
theorem d_xP_text_128 : decode prog_1_method_2_code 128 = .ok (.ireturn, 1) := by decide +kernel
theorem d_xP_command_0 : decode prog_1_method_8_code 0 = .ok (.aload_n 0, 1) := by decide +kernel
theorem d_xP_command_1 : decode prog_1_method_8_code 1 = .ok (.getfield 44, 3) := by decide +kernel
theorem d_xP_command_4 : decode prog_1_method_8_code 4 = .ok (.iload_n 1, 1) := by decide +kernel
theorem d_xP_command_5 : decode prog_1_method_8_code 5 = .ok (.invokevirtual 85, 3) := by decide +kernel
theorem d_xP_command_8 : decode prog_1_method_8_code 8 = .ok (.ifCond .ne 13, 3) := by decide +kernel
theorem d_xP_command_11 : decode prog_1_method_8_code 11 = .ok (.new 89, 3) := by decide +kernel
theorem d_xP_command_14 : decode prog_1_method_8_code 14 = .ok (.dup, 1) := by decide +kernel
theorem d_xP_command_15 : decode prog_1_method_8_code 15 = .ok (.ldc 91, 2) := by decide +kernel
theorem d_xP_command_17 : decode prog_1_method_8_code 17 = .ok (.invokespecial 93, 3) := by decide +kernel
theorem d_xP_command_20 : decode prog_1_method_8_code 20 = .ok (.athrow, 1) := by decide +kernel
theorem d_xP_command_21 : decode prog_1_method_8_code 21 = .ok (.aload_n 0, 1) := by decide +kernel
theorem d_xP_command_22 : decode prog_1_method_8_code 22 = .ok (.getfield 44, 3) := by decide +kernel
theorem d_xP_command_25 : decode prog_1_method_8_code 25 = .ok (.getfield 94, 3) := by decide +kernel
theorem d_xP_command_28 : decode prog_1_method_8_code 28 = .ok (.iload_n 1, 1) := by decide +kernel
theorem d_xP_command_29 : decode prog_1_method_8_code 29 = .ok (.iaload, 1) := by decide +kernel
theorem d_xP_command_30 : decode prog_1_method_8_code 30 = .ok (.ireturn, 1) := by decide +kernel
theorem d_xP_number_0 : decode prog_1_method_9_code 0 = .ok (.aload_n 0, 1) := by decide +kernel
theorem d_xP_number_1 : decode prog_1_method_9_code 1 = .ok (.getfield 44, 3) := by decide +kernel
theorem d_xP_number_4 : decode prog_1_method_9_code 4 = .ok (.iload_n 1, 1) := by decide +kernel
theorem d_xP_number_5 : decode prog_1_method_9_code 5 = .ok (.invokevirtual 85, 3) := by decide +kernel
theorem d_xP_number_8 : decode prog_1_method_9_code 8 = .ok (.ifCond .eq 23, 3) := by decide +kernel
theorem d_xP_number_11 : decode prog_1_method_9_code 11 = .ok (.iload_n 2, 1) := by decide +kernel
theorem d_xP_number_12 : decode prog_1_method_9_code 12 = .ok (.ifCond .lt 19, 3) := by decide +kernel
theorem d_xP_number_15 : decode prog_1_method_9_code 15 = .ok (.iload_n 2, 1) := by decide +kernel
theorem d_xP_number_16 : decode prog_1_method_9_code 16 = .ok (.aload_n 0, 1) := by decide +kernel
theorem d_xP_number_17 : decode prog_1_method_9_code 17 = .ok (.getfield 44, 3) := by decide +kernel
theorem d_xP_number_20 : decode prog_1_method_9_code 20 = .ok (.getfield 94, 3) := by decide +kernel
theorem d_xP_number_23 : decode prog_1_method_9_code 23 = .ok (.iload_n 1, 1) := by decide +kernel
theorem d_xP_number_24 : decode prog_1_method_9_code 24 = .ok (.iaload, 1) := by decide +kernel
theorem d_xP_number_25 : decode prog_1_method_9_code 25 = .ok (.invokestatic 98, 3) := by decide +kernel
theorem d_xP_number_28 : decode prog_1_method_9_code 28 = .ok (.if_icmp .lt 13, 3) := by decide +kernel
theorem d_xP_number_31 : decode prog_1_method_9_code 31 = .ok (.new 89, 3) := by decide +kernel
theorem d_xP_number_34 : decode prog_1_method_9_code 34 = .ok (.dup, 1) := by decide +kernel
theorem d_xP_number_35 : decode prog_1_method_9_code 35 = .ok (.ldc 101, 2) := by decide +kernel
theorem d_xP_number_37 : decode prog_1_method_9_code 37 = .ok (.invokespecial 93, 3) := by decide +kernel
theorem d_xP_number_40 : decode prog_1_method_9_code 40 = .ok (.athrow, 1) := by decide +kernel
theorem d_xP_number_41 : decode prog_1_method_9_code 41 = .ok (.aload_n 0, 1) := by decide +kernel
theorem d_xP_number_42 : decode prog_1_method_9_code 42 = .ok (.getfield 44, 3) := by decide +kernel
theorem d_xP_number_45 : decode prog_1_method_9_code 45 = .ok (.getfield 103, 3) := by decide +kernel
theorem d_xP_number_48 : decode prog_1_method_9_code 48 = .ok (.iload_n 1, 1) := by decide +kernel
theorem d_xP_number_49 : decode prog_1_method_9_code 49 = .ok (.bipush 6, 2) := by decide +kernel
theorem d_xP_number_51 : decode prog_1_method_9_code 51 = .ok (.imul, 1) := by decide +kernel
theorem d_xP_number_52 : decode prog_1_method_9_code 52 = .ok (.iload_n 2, 1) := by decide +kernel
theorem d_xP_number_53 : decode prog_1_method_9_code 53 = .ok (.iadd, 1) := by decide +kernel
theorem d_xP_number_54 : decode prog_1_method_9_code 54 = .ok (.iaload, 1) := by decide +kernel
theorem d_xP_number_55 : decode prog_1_method_9_code 55 = .ok (.ireturn, 1) := by decide +kernel
theorem d_xP_charAt_0 : decode prog_1_method_11_code 0 = .ok (.iload_n 1, 1) := by decide +kernel
theorem d_xP_charAt_1 : decode prog_1_method_11_code 1 = .ok (.ifCond .lt 14, 3) := by decide +kernel
theorem d_xP_charAt_4 : decode prog_1_method_11_code 4 = .ok (.iload_n 1, 1) := by decide +kernel
theorem d_xP_charAt_5 : decode prog_1_method_11_code 5 = .ok (.aload_n 0, 1) := by decide +kernel
theorem d_xP_charAt_6 : decode prog_1_method_11_code 6 = .ok (.getfield 18, 3) := by decide +kernel
theorem d_xP_charAt_9 : decode prog_1_method_11_code 9 = .ok (.getfield 62, 3) := by decide +kernel
theorem d_xP_charAt_12 : decode prog_1_method_11_code 12 = .ok (.if_icmp .lt 13, 3) := by decide +kernel
theorem d_xP_charAt_15 : decode prog_1_method_11_code 15 = .ok (.new 89, 3) := by decide +kernel
theorem d_xP_charAt_18 : decode prog_1_method_11_code 18 = .ok (.dup, 1) := by decide +kernel
theorem d_xP_charAt_19 : decode prog_1_method_11_code 19 = .ok (.ldc 112, 2) := by decide +kernel
theorem d_xP_charAt_21 : decode prog_1_method_11_code 21 = .ok (.invokespecial 93, 3) := by decide +kernel
theorem d_xP_charAt_24 : decode prog_1_method_11_code 24 = .ok (.athrow, 1) := by decide +kernel
theorem d_xP_charAt_25 : decode prog_1_method_11_code 25 = .ok (.aload_n 0, 1) := by decide +kernel
theorem d_xP_charAt_26 : decode prog_1_method_11_code 26 = .ok (.getfield 18, 3) := by decide +kernel
theorem d_xP_charAt_29 : decode prog_1_method_11_code 29 = .ok (.iload_n 1, 1) := by decide +kernel
theorem d_xP_charAt_30 : decode prog_1_method_11_code 30 = .ok (.invokevirtual 114, 3) := by decide +kernel
theorem d_xP_charAt_33 : decode prog_1_method_11_code 33 = .ok (.ireturn, 1) := by decide +kernel
theorem d_xP_bound_0 : decode prog_1_method_14_code 0 = .ok (.iload_n 1, 1) := by decide +kernel
theorem d_xP_bound_1 : decode prog_1_method_14_code 1 = .ok (.ifCond .lt 8, 3) := by decide +kernel
theorem d_xP_bound_4 : decode prog_1_method_14_code 4 = .ok (.iload_n 1, 1) := by decide +kernel
theorem d_xP_bound_5 : decode prog_1_method_14_code 5 = .ok (.iconst 3, 1) := by decide +kernel
theorem d_xP_bound_6 : decode prog_1_method_14_code 6 = .ok (.if_icmp .le 7, 3) := by decide +kernel
theorem d_xP_bound_9 : decode prog_1_method_14_code 9 = .ok (.iconst (-1), 1) := by decide +kernel
theorem d_xP_bound_10 : decode prog_1_method_14_code 10 = .ok (.goto 23, 3) := by decide +kernel
theorem d_xP_bound_13 : decode prog_1_method_14_code 13 = .ok (.aload_n 0, 1) := by decide +kernel
theorem d_xP_bound_14 : decode prog_1_method_14_code 14 = .ok (.getfield 44, 3) := by decide +kernel
theorem d_xP_bound_17 : decode prog_1_method_14_code 17 = .ok (.iload_n 1, 1) := by decide +kernel
theorem d_xP_bound_18 : decode prog_1_method_14_code 18 = .ok (.iconst 2, 1) := by decide +kernel
theorem d_xP_bound_19 : decode prog_1_method_14_code 19 = .ok (.irem, 1) := by decide +kernel
theorem d_xP_bound_20 : decode prog_1_method_14_code 20 = .ok (.iload_n 1, 1) := by decide +kernel
theorem d_xP_bound_21 : decode prog_1_method_14_code 21 = .ok (.iconst 2, 1) := by decide +kernel
theorem d_xP_bound_22 : decode prog_1_method_14_code 22 = .ok (.if_icmp .lt 7, 3) := by decide +kernel
theorem d_xP_bound_25 : decode prog_1_method_14_code 25 = .ok (.iconst 1, 1) := by decide +kernel
theorem d_xP_bound_26 : decode prog_1_method_14_code 26 = .ok (.goto 4, 3) := by decide +kernel
theorem d_xP_bound_29 : decode prog_1_method_14_code 29 = .ok (.iconst 0, 1) := by decide +kernel
theorem d_xP_bound_30 : decode prog_1_method_14_code 30 = .ok (.invokevirtual 137, 3) := by decide +kernel
theorem d_xP_bound_33 : decode prog_1_method_14_code 33 = .ok (.ireturn, 1) := by decide +kernel
theorem d_xP_told_0 : decode prog_1_method_15_code 0 = .ok (.iload_n 1, 1) := by decide +kernel
theorem d_xP_told_1 : decode prog_1_method_15_code 1 = .ok (.tableswitch 63 0 3 #[31, 39, 47, 55], 31) := by decide +kernel
theorem d_xP_told_32 : decode prog_1_method_15_code 32 = .ok (.aload_n 0, 1) := by decide +kernel
theorem d_xP_told_33 : decode prog_1_method_15_code 33 = .ok (.getfield 44, 3) := by decide +kernel
theorem d_xP_told_36 : decode prog_1_method_15_code 36 = .ok (.getfield 78, 3) := by decide +kernel
theorem d_xP_told_39 : decode prog_1_method_15_code 39 = .ok (.ireturn, 1) := by decide +kernel
theorem d_xP_told_40 : decode prog_1_method_15_code 40 = .ok (.aload_n 0, 1) := by decide +kernel
theorem d_xP_told_41 : decode prog_1_method_15_code 41 = .ok (.getfield 14, 3) := by decide +kernel
theorem d_xP_told_44 : decode prog_1_method_15_code 44 = .ok (.getfield 62, 3) := by decide +kernel
theorem d_xP_told_47 : decode prog_1_method_15_code 47 = .ok (.ireturn, 1) := by decide +kernel
theorem d_xP_told_48 : decode prog_1_method_15_code 48 = .ok (.aload_n 0, 1) := by decide +kernel
theorem d_xP_told_49 : decode prog_1_method_15_code 49 = .ok (.getfield 18, 3) := by decide +kernel
theorem d_xP_told_52 : decode prog_1_method_15_code 52 = .ok (.getfield 62, 3) := by decide +kernel
theorem d_xP_told_55 : decode prog_1_method_15_code 55 = .ok (.ireturn, 1) := by decide +kernel
theorem d_xP_told_56 : decode prog_1_method_15_code 56 = .ok (.aload_n 0, 1) := by decide +kernel
theorem d_xP_told_57 : decode prog_1_method_15_code 57 = .ok (.getfield 44, 3) := by decide +kernel
theorem d_xP_told_60 : decode prog_1_method_15_code 60 = .ok (.invokevirtual 141, 3) := by decide +kernel
theorem d_xP_told_63 : decode prog_1_method_15_code 63 = .ok (.ireturn, 1) := by decide +kernel
theorem d_xP_told_64 : decode prog_1_method_15_code 64 = .ok (.iconst (-1), 1) := by decide +kernel
theorem d_xP_told_65 : decode prog_1_method_15_code 65 = .ok (.ireturn, 1) := by decide +kernel
theorem d_xP_addGiven_0 : decode prog_1_method_17_code 0 = .ok (.aload_n 0, 1) := by decide +kernel
theorem d_xP_addGiven_1 : decode prog_1_method_17_code 1 = .ok (.getfield 37, 3) := by decide +kernel
theorem d_xP_addGiven_4 : decode prog_1_method_17_code 4 = .ok (.iload_n 1, 1) := by decide +kernel
theorem d_xP_addGiven_5 : decode prog_1_method_17_code 5 = .ok (.invokestatic 98, 3) := by decide +kernel
theorem d_xP_addGiven_8 : decode prog_1_method_17_code 8 = .ok (.invokestatic 145, 3) := by decide +kernel
theorem d_xP_addGiven_11 : decode prog_1_method_17_code 11 = .ok (.ifCond .ne 13, 3) := by decide +kernel
theorem d_xP_addGiven_14 : decode prog_1_method_17_code 14 = .ok (.new 55, 3) := by decide +kernel
theorem d_xP_addGiven_17 : decode prog_1_method_17_code 17 = .ok (.dup, 1) := by decide +kernel
theorem d_xP_addGiven_18 : decode prog_1_method_17_code 18 = .ok (.ldc 149, 2) := by decide +kernel
theorem d_xP_addGiven_20 : decode prog_1_method_17_code 20 = .ok (.invokespecial 59, 3) := by decide +kernel
theorem d_xP_addGiven_23 : decode prog_1_method_17_code 23 = .ok (.athrow, 1) := by decide +kernel
theorem d_xP_addGiven_24 : decode prog_1_method_17_code 24 = .ok (.iload_n 1, 1) := by decide +kernel
theorem d_xP_addGiven_25 : decode prog_1_method_17_code 25 = .ok (.ifCond .eq 23, 3) := by decide +kernel
theorem d_xP_addGiven_28 : decode prog_1_method_17_code 28 = .ok (.aload_n 0, 1) := by decide +kernel
theorem d_xP_addGiven_29 : decode prog_1_method_17_code 29 = .ok (.getfield 44, 3) := by decide +kernel
theorem d_xP_addGiven_32 : decode prog_1_method_17_code 32 = .ok (.getfield 78, 3) := by decide +kernel
theorem d_xP_addGiven_35 : decode prog_1_method_17_code 35 = .ok (.ifCond .ne 13, 3) := by decide +kernel
theorem d_xP_addGiven_38 : decode prog_1_method_17_code 38 = .ok (.new 151, 3) := by decide +kernel
theorem d_xP_addGiven_41 : decode prog_1_method_17_code 41 = .ok (.dup, 1) := by decide +kernel
theorem d_xP_addGiven_42 : decode prog_1_method_17_code 42 = .ok (.ldc 153, 2) := by decide +kernel
theorem d_xP_addGiven_44 : decode prog_1_method_17_code 44 = .ok (.invokespecial 155, 3) := by decide +kernel
theorem d_xP_addGiven_47 : decode prog_1_method_17_code 47 = .ok (.athrow, 1) := by decide +kernel
theorem d_xP_addGiven_48 : decode prog_1_method_17_code 48 = .ok (.aload_n 0, 1) := by decide +kernel
theorem d_xP_addGiven_49 : decode prog_1_method_17_code 49 = .ok (.getfield 44, 3) := by decide +kernel
theorem d_xP_addGiven_52 : decode prog_1_method_17_code 52 = .ok (.iload_n 1, 1) := by decide +kernel
theorem d_xP_addGiven_53 : decode prog_1_method_17_code 53 = .ok (.aload_n 0, 1) := by decide +kernel
theorem d_xP_addGiven_54 : decode prog_1_method_17_code 54 = .ok (.getfield 37, 3) := by decide +kernel
theorem d_xP_addGiven_57 : decode prog_1_method_17_code 57 = .ok (.invokevirtual 156, 3) := by decide +kernel
theorem d_xP_addGiven_60 : decode prog_1_method_17_code 60 = .ok (.ifCond .ne 13, 3) := by decide +kernel
theorem d_xP_addGiven_63 : decode prog_1_method_17_code 63 = .ok (.new 66, 3) := by decide +kernel
theorem d_xP_addGiven_66 : decode prog_1_method_17_code 66 = .ok (.dup, 1) := by decide +kernel
theorem d_xP_addGiven_67 : decode prog_1_method_17_code 67 = .ok (.ldc 160, 2) := by decide +kernel
theorem d_xP_addGiven_69 : decode prog_1_method_17_code 69 = .ok (.invokespecial 70, 3) := by decide +kernel
theorem d_xP_addGiven_72 : decode prog_1_method_17_code 72 = .ok (.athrow, 1) := by decide +kernel
theorem d_xP_addGiven_73 : decode prog_1_method_17_code 73 = .ok (.aload_n 0, 1) := by decide +kernel
theorem d_xP_addGiven_74 : decode prog_1_method_17_code 74 = .ok (.getfield 44, 3) := by decide +kernel
theorem d_xP_addGiven_77 : decode prog_1_method_17_code 77 = .ok (.getfield 78, 3) := by decide +kernel
theorem d_xP_addGiven_80 : decode prog_1_method_17_code 80 = .ok (.ireturn, 1) := by decide +kernel
theorem d_xMatrices_open_0 : decode prog_4_method_4_code 0 = .ok (.aload_n 0, 1) := by decide +kernel
theorem d_xMatrices_open_1 : decode prog_4_method_4_code 1 = .ok (.invokevirtual 27, 3) := by decide +kernel
theorem d_xMatrices_open_4 : decode prog_4_method_4_code 4 = .ok (.ifCond .ne 10, 3) := by decide +kernel
theorem d_xMatrices_open_7 : decode prog_4_method_4_code 7 = .ok (.aload_n 1, 1) := by decide +kernel
theorem d_xMatrices_open_8 : decode prog_4_method_4_code 8 = .ok (.arraylength, 1) := by decide +kernel
theorem d_xMatrices_open_9 : decode prog_4_method_4_code 9 = .ok (.bipush 6, 2) := by decide +kernel
theorem d_xMatrices_open_11 : decode prog_4_method_4_code 11 = .ok (.if_icmp .ge 5, 3) := by decide +kernel
theorem d_xMatrices_open_14 : decode prog_4_method_4_code 14 = .ok (.iconst 0, 1) := by decide +kernel
theorem d_xMatrices_open_15 : decode prog_4_method_4_code 15 = .ok (.ireturn, 1) := by decide +kernel
theorem d_xMatrices_open_16 : decode prog_4_method_4_code 16 = .ok (.aload_n 0, 1) := by decide +kernel
theorem d_xMatrices_open_17 : decode prog_4_method_4_code 17 = .ok (.getfield 15, 3) := by decide +kernel
theorem d_xMatrices_open_20 : decode prog_4_method_4_code 20 = .ok (.iconst 1, 1) := by decide +kernel
theorem d_xMatrices_open_21 : decode prog_4_method_4_code 21 = .ok (.iadd, 1) := by decide +kernel
theorem d_xMatrices_open_22 : decode prog_4_method_4_code 22 = .ok (.bipush 6, 2) := by decide +kernel
theorem d_xMatrices_open_24 : decode prog_4_method_4_code 24 = .ok (.imul, 1) := by decide +kernel
theorem d_xMatrices_open_25 : decode prog_4_method_4_code 25 = .ok (.istore_n 2, 1) := by decide +kernel
theorem d_xMatrices_open_26 : decode prog_4_method_4_code 26 = .ok (.iconst 1, 1) := by decide +kernel
theorem d_xMatrices_open_27 : decode prog_4_method_4_code 27 = .ok (.istore_n 3, 1) := by decide +kernel
theorem d_xMatrices_open_28 : decode prog_4_method_4_code 28 = .ok (.iconst 0, 1) := by decide +kernel
theorem d_xMatrices_open_29 : decode prog_4_method_4_code 29 = .ok (.istore 4, 2) := by decide +kernel
theorem d_xMatrices_open_31 : decode prog_4_method_4_code 31 = .ok (.iload 4, 2) := by decide +kernel
theorem d_xMatrices_open_33 : decode prog_4_method_4_code 33 = .ok (.bipush 6, 2) := by decide +kernel
theorem d_xMatrices_open_35 : decode prog_4_method_4_code 35 = .ok (.if_icmp .ge 118, 3) := by decide +kernel
theorem d_xMatrices_open_38 : decode prog_4_method_4_code 38 = .ok (.iload 4, 2) := by decide +kernel
theorem d_xMatrices_open_40 : decode prog_4_method_4_code 40 = .ok (.iconst 4, 1) := by decide +kernel
theorem d_xMatrices_open_41 : decode prog_4_method_4_code 41 = .ok (.if_icmp .ne 7, 3) := by decide +kernel
theorem d_xMatrices_open_44 : decode prog_4_method_4_code 44 = .ok (.iconst 1, 1) := by decide +kernel
theorem d_xMatrices_open_45 : decode prog_4_method_4_code 45 = .ok (.goto 4, 3) := by decide +kernel
theorem d_xMatrices_open_48 : decode prog_4_method_4_code 48 = .ok (.iconst 0, 1) := by decide +kernel
theorem d_xMatrices_open_49 : decode prog_4_method_4_code 49 = .ok (.istore 5, 2) := by decide +kernel
theorem d_xMatrices_open_51 : decode prog_4_method_4_code 51 = .ok (.aload_n 0, 1) := by decide +kernel
theorem d_xMatrices_open_52 : decode prog_4_method_4_code 52 = .ok (.getfield 9, 3) := by decide +kernel
theorem d_xMatrices_open_55 : decode prog_4_method_4_code 55 = .ok (.iload_n 2, 1) := by decide +kernel
theorem d_xMatrices_open_56 : decode prog_4_method_4_code 56 = .ok (.iload 4, 2) := by decide +kernel
theorem d_xMatrices_open_58 : decode prog_4_method_4_code 58 = .ok (.iadd, 1) := by decide +kernel
theorem d_xMatrices_open_59 : decode prog_4_method_4_code 59 = .ok (.aload_n 0, 1) := by decide +kernel
theorem d_xMatrices_open_60 : decode prog_4_method_4_code 60 = .ok (.aload_n 1, 1) := by decide +kernel
theorem d_xMatrices_open_61 : decode prog_4_method_4_code 61 = .ok (.iload 4, 2) := by decide +kernel
theorem d_xMatrices_open_63 : decode prog_4_method_4_code 63 = .ok (.laload, 1) := by decide +kernel
theorem d_xMatrices_open_64 : decode prog_4_method_4_code 64 = .ok (.aload_n 1, 1) := by decide +kernel
theorem d_xMatrices_open_65 : decode prog_4_method_4_code 65 = .ok (.iload 4, 2) := by decide +kernel
theorem d_xMatrices_open_67 : decode prog_4_method_4_code 67 = .ok (.iconst 1, 1) := by decide +kernel
theorem d_xMatrices_open_68 : decode prog_4_method_4_code 68 = .ok (.iadd, 1) := by decide +kernel
theorem d_xMatrices_open_69 : decode prog_4_method_4_code 69 = .ok (.laload, 1) := by decide +kernel
theorem d_xMatrices_open_70 : decode prog_4_method_4_code 70 = .ok (.iconst 0, 1) := by decide +kernel
theorem d_xMatrices_open_71 : decode prog_4_method_4_code 71 = .ok (.iload 5, 2) := by decide +kernel
theorem d_xMatrices_open_73 : decode prog_4_method_4_code 73 = .ok (.invokevirtual 31, 3) := by decide +kernel
theorem d_xMatrices_open_76 : decode prog_4_method_4_code 76 = .ok (.lastore, 1) := by decide +kernel
theorem d_xMatrices_open_77 : decode prog_4_method_4_code 77 = .ok (.aload_n 0, 1) := by decide +kernel
theorem d_xMatrices_open_78 : decode prog_4_method_4_code 78 = .ok (.getfield 9, 3) := by decide +kernel
theorem d_xMatrices_open_81 : decode prog_4_method_4_code 81 = .ok (.iload_n 2, 1) := by decide +kernel
theorem d_xMatrices_open_82 : decode prog_4_method_4_code 82 = .ok (.iload 4, 2) := by decide +kernel
theorem d_xMatrices_open_84 : decode prog_4_method_4_code 84 = .ok (.iadd, 1) := by decide +kernel
theorem d_xMatrices_open_85 : decode prog_4_method_4_code 85 = .ok (.iconst 1, 1) := by decide +kernel
theorem d_xMatrices_open_86 : decode prog_4_method_4_code 86 = .ok (.iadd, 1) := by decide +kernel
theorem d_xMatrices_open_87 : decode prog_4_method_4_code 87 = .ok (.aload_n 0, 1) := by decide +kernel
theorem d_xMatrices_open_88 : decode prog_4_method_4_code 88 = .ok (.aload_n 1, 1) := by decide +kernel
theorem d_xMatrices_open_89 : decode prog_4_method_4_code 89 = .ok (.iload 4, 2) := by decide +kernel
theorem d_xMatrices_open_91 : decode prog_4_method_4_code 91 = .ok (.laload, 1) := by decide +kernel
theorem d_xMatrices_open_92 : decode prog_4_method_4_code 92 = .ok (.aload_n 1, 1) := by decide +kernel
theorem d_xMatrices_open_93 : decode prog_4_method_4_code 93 = .ok (.iload 4, 2) := by decide +kernel
theorem d_xMatrices_open_95 : decode prog_4_method_4_code 95 = .ok (.iconst 1, 1) := by decide +kernel
theorem d_xMatrices_open_96 : decode prog_4_method_4_code 96 = .ok (.iadd, 1) := by decide +kernel
theorem d_xMatrices_open_97 : decode prog_4_method_4_code 97 = .ok (.laload, 1) := by decide +kernel
theorem d_xMatrices_open_98 : decode prog_4_method_4_code 98 = .ok (.iconst 1, 1) := by decide +kernel
theorem d_xMatrices_open_99 : decode prog_4_method_4_code 99 = .ok (.iload 5, 2) := by decide +kernel
theorem d_xMatrices_open_101 : decode prog_4_method_4_code 101 = .ok (.invokevirtual 31, 3) := by decide +kernel
theorem d_xMatrices_open_104 : decode prog_4_method_4_code 104 = .ok (.lastore, 1) := by decide +kernel
theorem d_xMatrices_open_105 : decode prog_4_method_4_code 105 = .ok (.iload_n 3, 1) := by decide +kernel
theorem d_xMatrices_open_106 : decode prog_4_method_4_code 106 = .ok (.ifCond .eq 39, 3) := by decide +kernel
theorem d_xMatrices_open_109 : decode prog_4_method_4_code 109 = .ok (.aload_n 0, 1) := by decide +kernel
theorem d_xMatrices_open_110 : decode prog_4_method_4_code 110 = .ok (.getfield 9, 3) := by decide +kernel
theorem d_xMatrices_open_113 : decode prog_4_method_4_code 113 = .ok (.iload_n 2, 1) := by decide +kernel
theorem d_xMatrices_open_114 : decode prog_4_method_4_code 114 = .ok (.iload 4, 2) := by decide +kernel
theorem d_xMatrices_open_116 : decode prog_4_method_4_code 116 = .ok (.iadd, 1) := by decide +kernel
theorem d_xMatrices_open_117 : decode prog_4_method_4_code 117 = .ok (.laload, 1) := by decide +kernel
theorem d_xMatrices_open_118 : decode prog_4_method_4_code 118 = .ok (.invokestatic 35, 3) := by decide +kernel
theorem d_xMatrices_open_121 : decode prog_4_method_4_code 121 = .ok (.ifCond .eq 24, 3) := by decide +kernel
theorem d_xMatrices_open_124 : decode prog_4_method_4_code 124 = .ok (.aload_n 0, 1) := by decide +kernel
theorem d_xMatrices_open_125 : decode prog_4_method_4_code 125 = .ok (.getfield 9, 3) := by decide +kernel
theorem d_xMatrices_open_128 : decode prog_4_method_4_code 128 = .ok (.iload_n 2, 1) := by decide +kernel
theorem d_xMatrices_open_129 : decode prog_4_method_4_code 129 = .ok (.iload 4, 2) := by decide +kernel
theorem d_xMatrices_open_131 : decode prog_4_method_4_code 131 = .ok (.iadd, 1) := by decide +kernel
theorem d_xMatrices_open_132 : decode prog_4_method_4_code 132 = .ok (.iconst 1, 1) := by decide +kernel
theorem d_xMatrices_open_133 : decode prog_4_method_4_code 133 = .ok (.iadd, 1) := by decide +kernel
theorem d_xMatrices_open_134 : decode prog_4_method_4_code 134 = .ok (.laload, 1) := by decide +kernel
theorem d_xMatrices_open_135 : decode prog_4_method_4_code 135 = .ok (.invokestatic 35, 3) := by decide +kernel
theorem d_xMatrices_open_138 : decode prog_4_method_4_code 138 = .ok (.ifCond .eq 7, 3) := by decide +kernel
theorem d_xMatrices_open_141 : decode prog_4_method_4_code 141 = .ok (.iconst 1, 1) := by decide +kernel
theorem d_xMatrices_open_142 : decode prog_4_method_4_code 142 = .ok (.goto 4, 3) := by decide +kernel
theorem d_xMatrices_open_145 : decode prog_4_method_4_code 145 = .ok (.iconst 0, 1) := by decide +kernel
theorem d_xMatrices_open_146 : decode prog_4_method_4_code 146 = .ok (.istore_n 3, 1) := by decide +kernel
theorem d_xMatrices_open_147 : decode prog_4_method_4_code 147 = .ok (.iinc 4 2, 3) := by decide +kernel
theorem d_xMatrices_open_150 : decode prog_4_method_4_code 150 = .ok (.goto (-119), 3) := by decide +kernel
theorem d_xMatrices_open_153 : decode prog_4_method_4_code 153 = .ok (.aload_n 0, 1) := by decide +kernel
theorem d_xMatrices_open_154 : decode prog_4_method_4_code 154 = .ok (.dup, 1) := by decide +kernel
theorem d_xMatrices_open_155 : decode prog_4_method_4_code 155 = .ok (.getfield 15, 3) := by decide +kernel
theorem d_xMatrices_open_158 : decode prog_4_method_4_code 158 = .ok (.iconst 1, 1) := by decide +kernel
theorem d_xMatrices_open_159 : decode prog_4_method_4_code 159 = .ok (.iadd, 1) := by decide +kernel
theorem d_xMatrices_open_160 : decode prog_4_method_4_code 160 = .ok (.putfield 15, 3) := by decide +kernel
theorem d_xMatrices_open_163 : decode prog_4_method_4_code 163 = .ok (.iload_n 3, 1) := by decide +kernel
theorem d_xMatrices_open_164 : decode prog_4_method_4_code 164 = .ok (.ireturn, 1) := by decide +kernel
theorem d_xPen_aim_0 : decode prog_5_method_3_code 0 = .ok (.aload_n 0, 1) := by decide +kernel
theorem d_xPen_aim_1 : decode prog_5_method_3_code 1 = .ok (.iload_n 2, 1) := by decide +kernel
theorem d_xPen_aim_2 : decode prog_5_method_3_code 2 = .ok (.aload_n 3, 1) := by decide +kernel
theorem d_xPen_aim_3 : decode prog_5_method_3_code 3 = .ok (.invokevirtual 36, 3) := by decide +kernel
theorem d_xPen_aim_6 : decode prog_5_method_3_code 6 = .ok (.aload_n 0, 1) := by decide +kernel
theorem d_xPen_aim_7 : decode prog_5_method_3_code 7 = .ok (.getfield 32, 3) := by decide +kernel
theorem d_xPen_aim_10 : decode prog_5_method_3_code 10 = .ok (.istore 4, 2) := by decide +kernel
theorem d_xPen_aim_12 : decode prog_5_method_3_code 12 = .ok (.aload_n 0, 1) := by decide +kernel
theorem d_xPen_aim_13 : decode prog_5_method_3_code 13 = .ok (.iconst 0, 1) := by decide +kernel
theorem d_xPen_aim_14 : decode prog_5_method_3_code 14 = .ok (.putfield 32, 3) := by decide +kernel
theorem d_xPen_aim_17 : decode prog_5_method_3_code 17 = .ok (.iload_n 1, 1) := by decide +kernel
theorem d_xPen_aim_18 : decode prog_5_method_3_code 18 = .ok (.tableswitch 233 67 86 #[177, 233, 233, 233, 233, 118, 233, 233, 233, 116, 94, 233, 233, 233, 205, 233, 183, 211, 233, 130], 94) := by decide +kernel
theorem d_xPen_aim_112 : decode prog_5_method_3_code 112 = .ok (.aload_n 0, 1) := by decide +kernel
theorem d_xPen_aim_113 : decode prog_5_method_3_code 113 = .ok (.aload_n 0, 1) := by decide +kernel
theorem d_xPen_aim_114 : decode prog_5_method_3_code 114 = .ok (.getfield 18, 3) := by decide +kernel
theorem d_xPen_aim_117 : decode prog_5_method_3_code 117 = .ok (.iconst 0, 1) := by decide +kernel
theorem d_xPen_aim_118 : decode prog_5_method_3_code 118 = .ok (.laload, 1) := by decide +kernel
theorem d_xPen_aim_119 : decode prog_5_method_3_code 119 = .ok (.putfield 40, 3) := by decide +kernel
theorem d_xPen_aim_122 : decode prog_5_method_3_code 122 = .ok (.aload_n 0, 1) := by decide +kernel
theorem d_xPen_aim_123 : decode prog_5_method_3_code 123 = .ok (.aload_n 0, 1) := by decide +kernel
theorem d_xPen_aim_124 : decode prog_5_method_3_code 124 = .ok (.getfield 18, 3) := by decide +kernel
theorem d_xPen_aim_127 : decode prog_5_method_3_code 127 = .ok (.iconst 1, 1) := by decide +kernel
theorem d_xPen_aim_128 : decode prog_5_method_3_code 128 = .ok (.laload, 1) := by decide +kernel
theorem d_xPen_aim_129 : decode prog_5_method_3_code 129 = .ok (.putfield 43, 3) := by decide +kernel
theorem d_xPen_aim_132 : decode prog_5_method_3_code 132 = .ok (.iconst 0, 1) := by decide +kernel
theorem d_xPen_aim_133 : decode prog_5_method_3_code 133 = .ok (.ireturn, 1) := by decide +kernel
theorem d_xPen_aim_134 : decode prog_5_method_3_code 134 = .ok (.iconst 1, 1) := by decide +kernel
theorem d_xPen_aim_135 : decode prog_5_method_3_code 135 = .ok (.ireturn, 1) := by decide +kernel
theorem d_xPen_aim_136 : decode prog_5_method_3_code 136 = .ok (.aload_n 0, 1) := by decide +kernel
theorem d_xPen_aim_137 : decode prog_5_method_3_code 137 = .ok (.getfield 18, 3) := by decide +kernel
theorem d_xPen_aim_140 : decode prog_5_method_3_code 140 = .ok (.iconst 1, 1) := by decide +kernel
theorem d_xPen_aim_141 : decode prog_5_method_3_code 141 = .ok (.aload_n 0, 1) := by decide +kernel
theorem d_xPen_aim_142 : decode prog_5_method_3_code 142 = .ok (.getfield 29, 3) := by decide +kernel
theorem d_xPen_aim_145 : decode prog_5_method_3_code 145 = .ok (.lastore, 1) := by decide +kernel
theorem d_xPen_aim_146 : decode prog_5_method_3_code 146 = .ok (.iconst 1, 1) := by decide +kernel
theorem d_xPen_aim_147 : decode prog_5_method_3_code 147 = .ok (.ireturn, 1) := by decide +kernel
theorem d_xPen_aim_148 : decode prog_5_method_3_code 148 = .ok (.aload_n 0, 1) := by decide +kernel
theorem d_xPen_aim_149 : decode prog_5_method_3_code 149 = .ok (.getfield 18, 3) := by decide +kernel
theorem d_xPen_aim_152 : decode prog_5_method_3_code 152 = .ok (.iconst 1, 1) := by decide +kernel
theorem d_xPen_aim_153 : decode prog_5_method_3_code 153 = .ok (.iload_n 2, 1) := by decide +kernel
theorem d_xPen_aim_154 : decode prog_5_method_3_code 154 = .ok (.ifCond .eq 22, 3) := by decide +kernel
theorem d_xPen_aim_157 : decode prog_5_method_3_code 157 = .ok (.aload_n 0, 1) := by decide +kernel
theorem d_xPen_aim_158 : decode prog_5_method_3_code 158 = .ok (.getfield 18, 3) := by decide +kernel
theorem d_xPen_aim_161 : decode prog_5_method_3_code 161 = .ok (.iconst 0, 1) := by decide +kernel
theorem d_xPen_aim_162 : decode prog_5_method_3_code 162 = .ok (.laload, 1) := by decide +kernel
theorem d_xPen_aim_163 : decode prog_5_method_3_code 163 = .ok (.aload_n 0, 1) := by decide +kernel
theorem d_xPen_aim_164 : decode prog_5_method_3_code 164 = .ok (.getfield 25, 3) := by decide +kernel
theorem d_xPen_aim_167 : decode prog_5_method_3_code 167 = .ok (.lsub, 1) := by decide +kernel
theorem d_xPen_aim_168 : decode prog_5_method_3_code 168 = .ok (.aload_n 0, 1) := by decide +kernel
theorem d_xPen_aim_169 : decode prog_5_method_3_code 169 = .ok (.getfield 29, 3) := by decide +kernel
theorem d_xPen_aim_172 : decode prog_5_method_3_code 172 = .ok (.ladd, 1) := by decide +kernel
theorem d_xPen_aim_173 : decode prog_5_method_3_code 173 = .ok (.goto 9, 3) := by decide +kernel
theorem d_xPen_aim_176 : decode prog_5_method_3_code 176 = .ok (.aload_n 0, 1) := by decide +kernel
theorem d_xPen_aim_177 : decode prog_5_method_3_code 177 = .ok (.getfield 18, 3) := by decide +kernel
theorem d_xPen_aim_180 : decode prog_5_method_3_code 180 = .ok (.iconst 0, 1) := by decide +kernel
theorem d_xPen_aim_181 : decode prog_5_method_3_code 181 = .ok (.laload, 1) := by decide +kernel
theorem d_xPen_aim_182 : decode prog_5_method_3_code 182 = .ok (.lastore, 1) := by decide +kernel
theorem d_xPen_aim_183 : decode prog_5_method_3_code 183 = .ok (.aload_n 0, 1) := by decide +kernel
theorem d_xPen_aim_184 : decode prog_5_method_3_code 184 = .ok (.getfield 18, 3) := by decide +kernel
theorem d_xPen_aim_187 : decode prog_5_method_3_code 187 = .ok (.iconst 0, 1) := by decide +kernel
theorem d_xPen_aim_188 : decode prog_5_method_3_code 188 = .ok (.aload_n 0, 1) := by decide +kernel
theorem d_xPen_aim_189 : decode prog_5_method_3_code 189 = .ok (.getfield 25, 3) := by decide +kernel
theorem d_xPen_aim_192 : decode prog_5_method_3_code 192 = .ok (.lastore, 1) := by decide +kernel
theorem d_xPen_aim_193 : decode prog_5_method_3_code 193 = .ok (.iconst 1, 1) := by decide +kernel
theorem d_xPen_aim_194 : decode prog_5_method_3_code 194 = .ok (.ireturn, 1) := by decide +kernel
theorem d_xPen_aim_195 : decode prog_5_method_3_code 195 = .ok (.aload_n 0, 1) := by decide +kernel
theorem d_xPen_aim_196 : decode prog_5_method_3_code 196 = .ok (.invokevirtual 46, 3) := by decide +kernel
theorem d_xPen_aim_199 : decode prog_5_method_3_code 199 = .ok (.iconst 2, 1) := by decide +kernel
theorem d_xPen_aim_200 : decode prog_5_method_3_code 200 = .ok (.ireturn, 1) := by decide +kernel
theorem d_xPen_aim_201 : decode prog_5_method_3_code 201 = .ok (.aload_n 0, 1) := by decide +kernel
theorem d_xPen_aim_202 : decode prog_5_method_3_code 202 = .ok (.iload 4, 2) := by decide +kernel
theorem d_xPen_aim_204 : decode prog_5_method_3_code 204 = .ok (.bipush 67, 2) := by decide +kernel
theorem d_xPen_aim_206 : decode prog_5_method_3_code 206 = .ok (.if_icmp .ne 7, 3) := by decide +kernel
theorem d_xPen_aim_209 : decode prog_5_method_3_code 209 = .ok (.iconst 1, 1) := by decide +kernel
theorem d_xPen_aim_210 : decode prog_5_method_3_code 210 = .ok (.goto 4, 3) := by decide +kernel
theorem d_xPen_aim_213 : decode prog_5_method_3_code 213 = .ok (.iconst 0, 1) := by decide +kernel
theorem d_xPen_aim_214 : decode prog_5_method_3_code 214 = .ok (.invokevirtual 49, 3) := by decide +kernel
theorem d_xPen_aim_217 : decode prog_5_method_3_code 217 = .ok (.aload_n 0, 1) := by decide +kernel
theorem d_xPen_aim_218 : decode prog_5_method_3_code 218 = .ok (.invokevirtual 46, 3) := by decide +kernel
theorem d_xPen_aim_221 : decode prog_5_method_3_code 221 = .ok (.iconst 2, 1) := by decide +kernel
theorem d_xPen_aim_222 : decode prog_5_method_3_code 222 = .ok (.ireturn, 1) := by decide +kernel
theorem d_xPen_aim_223 : decode prog_5_method_3_code 223 = .ok (.aload_n 0, 1) := by decide +kernel
theorem d_xPen_aim_224 : decode prog_5_method_3_code 224 = .ok (.invokevirtual 53, 3) := by decide +kernel
theorem d_xPen_aim_227 : decode prog_5_method_3_code 227 = .ok (.iconst 2, 1) := by decide +kernel
theorem d_xPen_aim_228 : decode prog_5_method_3_code 228 = .ok (.ireturn, 1) := by decide +kernel
theorem d_xPen_aim_229 : decode prog_5_method_3_code 229 = .ok (.aload_n 0, 1) := by decide +kernel
theorem d_xPen_aim_230 : decode prog_5_method_3_code 230 = .ok (.iload 4, 2) := by decide +kernel
theorem d_xPen_aim_232 : decode prog_5_method_3_code 232 = .ok (.bipush 81, 2) := by decide +kernel
theorem d_xPen_aim_234 : decode prog_5_method_3_code 234 = .ok (.if_icmp .ne 7, 3) := by decide +kernel
theorem d_xPen_aim_237 : decode prog_5_method_3_code 237 = .ok (.iconst 1, 1) := by decide +kernel
theorem d_xPen_aim_238 : decode prog_5_method_3_code 238 = .ok (.goto 4, 3) := by decide +kernel
theorem d_xPen_aim_241 : decode prog_5_method_3_code 241 = .ok (.iconst 0, 1) := by decide +kernel
theorem d_xPen_aim_242 : decode prog_5_method_3_code 242 = .ok (.invokevirtual 49, 3) := by decide +kernel
theorem d_xPen_aim_245 : decode prog_5_method_3_code 245 = .ok (.aload_n 0, 1) := by decide +kernel
theorem d_xPen_aim_246 : decode prog_5_method_3_code 246 = .ok (.invokevirtual 53, 3) := by decide +kernel
theorem d_xPen_aim_249 : decode prog_5_method_3_code 249 = .ok (.iconst 2, 1) := by decide +kernel
theorem d_xPen_aim_250 : decode prog_5_method_3_code 250 = .ok (.ireturn, 1) := by decide +kernel
theorem d_xPen_aim_251 : decode prog_5_method_3_code 251 = .ok (.iconst 3, 1) := by decide +kernel
theorem d_xPen_aim_252 : decode prog_5_method_3_code 252 = .ok (.ireturn, 1) := by decide +kernel
theorem d_xReader_takeClosing_0 : decode prog_6_method_4_code 0 = .ok (.aload_n 0, 1) := by decide +kernel
theorem d_xReader_takeClosing_1 : decode prog_6_method_4_code 1 = .ok (.getfield 12, 3) := by decide +kernel
theorem d_xReader_takeClosing_4 : decode prog_6_method_4_code 4 = .ok (.getfield 32, 3) := by decide +kernel
theorem d_xReader_takeClosing_7 : decode prog_6_method_4_code 7 = .ok (.invokevirtual 96, 3) := by decide +kernel
theorem d_xReader_takeClosing_10 : decode prog_6_method_4_code 10 = .ok (.ifCond .ne 9, 3) := by decide +kernel
theorem d_xReader_takeClosing_13 : decode prog_6_method_4_code 13 = .ok (.aload_n 0, 1) := by decide +kernel
theorem d_xReader_takeClosing_14 : decode prog_6_method_4_code 14 = .ok (.iload_n 1, 1) := by decide +kernel
theorem d_xReader_takeClosing_15 : decode prog_6_method_4_code 15 = .ok (.invokevirtual 83, 3) := by decide +kernel
theorem d_xReader_takeClosing_18 : decode prog_6_method_4_code 18 = .ok (.ireturn, 1) := by decide +kernel
theorem d_xReader_takeClosing_19 : decode prog_6_method_4_code 19 = .ok (.aload_n 0, 1) := by decide +kernel
theorem d_xReader_takeClosing_20 : decode prog_6_method_4_code 20 = .ok (.invokevirtual 93, 3) := by decide +kernel
theorem d_xReader_takeClosing_23 : decode prog_6_method_4_code 23 = .ok (.iconst 1, 1) := by decide +kernel
theorem d_xReader_takeClosing_24 : decode prog_6_method_4_code 24 = .ok (.ireturn, 1) := by decide +kernel
theorem d_xReader_takeNumeral_0 : decode prog_6_method_9_code 0 = .ok (.aload_n 0, 1) := by decide +kernel
theorem d_xReader_takeNumeral_1 : decode prog_6_method_9_code 1 = .ok (.getfield 22, 3) := by decide +kernel
theorem d_xReader_takeNumeral_4 : decode prog_6_method_9_code 4 = .ok (.aload_n 0, 1) := by decide +kernel
theorem d_xReader_takeNumeral_5 : decode prog_6_method_9_code 5 = .ok (.getfield 44, 3) := by decide +kernel
theorem d_xReader_takeNumeral_8 : decode prog_6_method_9_code 8 = .ok (.invokevirtual 62, 3) := by decide +kernel
theorem d_xReader_takeNumeral_11 : decode prog_6_method_9_code 11 = .ok (.bipush 45, 2) := by decide +kernel
theorem d_xReader_takeNumeral_13 : decode prog_6_method_9_code 13 = .ok (.if_icmp .ne 7, 3) := by decide +kernel
theorem d_xReader_takeNumeral_16 : decode prog_6_method_9_code 16 = .ok (.iconst 1, 1) := by decide +kernel
theorem d_xReader_takeNumeral_17 : decode prog_6_method_9_code 17 = .ok (.goto 4, 3) := by decide +kernel
theorem d_xReader_takeNumeral_20 : decode prog_6_method_9_code 20 = .ok (.iconst 0, 1) := by decide +kernel
theorem d_xReader_takeNumeral_21 : decode prog_6_method_9_code 21 = .ok (.istore_n 2, 1) := by decide +kernel
theorem d_xReader_takeNumeral_22 : decode prog_6_method_9_code 22 = .ok (.iload_n 2, 1) := by decide +kernel
theorem d_xReader_takeNumeral_23 : decode prog_6_method_9_code 23 = .ok (.ifCond .ne 19, 3) := by decide +kernel
theorem d_xReader_takeNumeral_26 : decode prog_6_method_9_code 26 = .ok (.aload_n 0, 1) := by decide +kernel
theorem d_xReader_takeNumeral_27 : decode prog_6_method_9_code 27 = .ok (.getfield 22, 3) := by decide +kernel
theorem d_xReader_takeNumeral_30 : decode prog_6_method_9_code 30 = .ok (.aload_n 0, 1) := by decide +kernel
theorem d_xReader_takeNumeral_31 : decode prog_6_method_9_code 31 = .ok (.getfield 44, 3) := by decide +kernel
theorem d_xReader_takeNumeral_34 : decode prog_6_method_9_code 34 = .ok (.invokevirtual 62, 3) := by decide +kernel
theorem d_xReader_takeNumeral_37 : decode prog_6_method_9_code 37 = .ok (.bipush 43, 2) := by decide +kernel
theorem d_xReader_takeNumeral_39 : decode prog_6_method_9_code 39 = .ok (.if_icmp .ne 12, 3) := by decide +kernel
theorem d_xReader_takeNumeral_42 : decode prog_6_method_9_code 42 = .ok (.aload_n 0, 1) := by decide +kernel
theorem d_xReader_takeNumeral_43 : decode prog_6_method_9_code 43 = .ok (.getfield 44, 3) := by decide +kernel
theorem d_xReader_takeNumeral_46 : decode prog_6_method_9_code 46 = .ok (.iconst 1, 1) := by decide +kernel
theorem d_xReader_takeNumeral_47 : decode prog_6_method_9_code 47 = .ok (.iadd, 1) := by decide +kernel
theorem d_xReader_takeNumeral_48 : decode prog_6_method_9_code 48 = .ok (.goto 7, 3) := by decide +kernel
theorem d_xReader_takeNumeral_51 : decode prog_6_method_9_code 51 = .ok (.aload_n 0, 1) := by decide +kernel
theorem d_xReader_takeNumeral_52 : decode prog_6_method_9_code 52 = .ok (.getfield 44, 3) := by decide +kernel
theorem d_xReader_takeNumeral_55 : decode prog_6_method_9_code 55 = .ok (.istore_n 3, 1) := by decide +kernel
theorem d_xReader_takeNumeral_56 : decode prog_6_method_9_code 56 = .ok (.lconst 0, 1) := by decide +kernel
theorem d_xReader_takeNumeral_57 : decode prog_6_method_9_code 57 = .ok (.lstore 4, 2) := by decide +kernel
theorem d_xReader_takeNumeral_59 : decode prog_6_method_9_code 59 = .ok (.iconst 0, 1) := by decide +kernel
theorem d_xReader_takeNumeral_60 : decode prog_6_method_9_code 60 = .ok (.istore 6, 2) := by decide +kernel
theorem d_xReader_takeNumeral_62 : decode prog_6_method_9_code 62 = .ok (.iconst 0, 1) := by decide +kernel
theorem d_xReader_takeNumeral_63 : decode prog_6_method_9_code 63 = .ok (.istore 7, 2) := by decide +kernel
theorem d_xReader_takeNumeral_65 : decode prog_6_method_9_code 65 = .ok (.iconst 0, 1) := by decide +kernel
theorem d_xReader_takeNumeral_66 : decode prog_6_method_9_code 66 = .ok (.istore 8, 2) := by decide +kernel
theorem d_xReader_takeNumeral_68 : decode prog_6_method_9_code 68 = .ok (.iload_n 3, 1) := by decide +kernel
theorem d_xReader_takeNumeral_69 : decode prog_6_method_9_code 69 = .ok (.aload_n 0, 1) := by decide +kernel
theorem d_xReader_takeNumeral_70 : decode prog_6_method_9_code 70 = .ok (.getfield 22, 3) := by decide +kernel
theorem d_xReader_takeNumeral_73 : decode prog_6_method_9_code 73 = .ok (.getfield 54, 3) := by decide +kernel
theorem d_xReader_takeNumeral_76 : decode prog_6_method_9_code 76 = .ok (.if_icmp .ge 89, 3) := by decide +kernel
theorem d_xReader_takeNumeral_79 : decode prog_6_method_9_code 79 = .ok (.aload_n 0, 1) := by decide +kernel
theorem d_xReader_takeNumeral_80 : decode prog_6_method_9_code 80 = .ok (.getfield 22, 3) := by decide +kernel
theorem d_xReader_takeNumeral_83 : decode prog_6_method_9_code 83 = .ok (.iload_n 3, 1) := by decide +kernel
theorem d_xReader_takeNumeral_84 : decode prog_6_method_9_code 84 = .ok (.invokevirtual 62, 3) := by decide +kernel
theorem d_xReader_takeNumeral_87 : decode prog_6_method_9_code 87 = .ok (.istore 9, 2) := by decide +kernel
theorem d_xReader_takeNumeral_89 : decode prog_6_method_9_code 89 = .ok (.iload 9, 2) := by decide +kernel
theorem d_xReader_takeNumeral_91 : decode prog_6_method_9_code 91 = .ok (.invokestatic 117, 3) := by decide +kernel
theorem d_xReader_takeNumeral_94 : decode prog_6_method_9_code 94 = .ok (.ifCond .eq 50, 3) := by decide +kernel
theorem d_xReader_takeNumeral_97 : decode prog_6_method_9_code 97 = .ok (.iinc 6 1, 3) := by decide +kernel
theorem d_xReader_takeNumeral_100 : decode prog_6_method_9_code 100 = .ok (.iload 6, 2) := by decide +kernel
theorem d_xReader_takeNumeral_102 : decode prog_6_method_9_code 102 = .ok (.bipush 9, 2) := by decide +kernel
theorem d_xReader_takeNumeral_104 : decode prog_6_method_9_code 104 = .ok (.if_icmp .le 7, 3) := by decide +kernel
theorem d_xReader_takeNumeral_107 : decode prog_6_method_9_code 107 = .ok (.lconst 0, 1) := by decide +kernel
theorem d_xReader_takeNumeral_108 : decode prog_6_method_9_code 108 = .ok (.goto 16, 3) := by decide +kernel
theorem d_xReader_takeNumeral_111 : decode prog_6_method_9_code 111 = .ok (.lload 4, 2) := by decide +kernel
theorem d_xReader_takeNumeral_113 : decode prog_6_method_9_code 113 = .ok (.ldc2_w 121, 3) := by decide +kernel
theorem d_xReader_takeNumeral_116 : decode prog_6_method_9_code 116 = .ok (.lmul, 1) := by decide +kernel
theorem d_xReader_takeNumeral_117 : decode prog_6_method_9_code 117 = .ok (.iload 9, 2) := by decide +kernel
theorem d_xReader_takeNumeral_119 : decode prog_6_method_9_code 119 = .ok (.bipush 48, 2) := by decide +kernel
theorem d_xReader_takeNumeral_121 : decode prog_6_method_9_code 121 = .ok (.isub, 1) := by decide +kernel
theorem d_xReader_takeNumeral_122 : decode prog_6_method_9_code 122 = .ok (.i2l, 1) := by decide +kernel
theorem d_xReader_takeNumeral_123 : decode prog_6_method_9_code 123 = .ok (.ladd, 1) := by decide +kernel
theorem d_xReader_takeNumeral_124 : decode prog_6_method_9_code 124 = .ok (.lstore 4, 2) := by decide +kernel
theorem d_xReader_takeNumeral_126 : decode prog_6_method_9_code 126 = .ok (.iload 7, 2) := by decide +kernel
theorem d_xReader_takeNumeral_128 : decode prog_6_method_9_code 128 = .ok (.iload 8, 2) := by decide +kernel
theorem d_xReader_takeNumeral_130 : decode prog_6_method_9_code 130 = .ok (.ifCond .eq 7, 3) := by decide +kernel
theorem d_xReader_takeNumeral_133 : decode prog_6_method_9_code 133 = .ok (.iconst 1, 1) := by decide +kernel
theorem d_xReader_takeNumeral_134 : decode prog_6_method_9_code 134 = .ok (.goto 4, 3) := by decide +kernel
theorem d_xReader_takeNumeral_137 : decode prog_6_method_9_code 137 = .ok (.iconst 0, 1) := by decide +kernel
theorem d_xReader_takeNumeral_138 : decode prog_6_method_9_code 138 = .ok (.iadd, 1) := by decide +kernel
theorem d_xReader_takeNumeral_139 : decode prog_6_method_9_code 139 = .ok (.istore 7, 2) := by decide +kernel
theorem d_xReader_takeNumeral_141 : decode prog_6_method_9_code 141 = .ok (.goto 18, 3) := by decide +kernel
theorem d_xReader_takeNumeral_144 : decode prog_6_method_9_code 144 = .ok (.iload 9, 2) := by decide +kernel
theorem d_xReader_takeNumeral_146 : decode prog_6_method_9_code 146 = .ok (.bipush 46, 2) := by decide +kernel
theorem d_xReader_takeNumeral_148 : decode prog_6_method_9_code 148 = .ok (.if_icmp .ne 17, 3) := by decide +kernel
theorem d_xReader_takeNumeral_151 : decode prog_6_method_9_code 151 = .ok (.iload 8, 2) := by decide +kernel
theorem d_xReader_takeNumeral_153 : decode prog_6_method_9_code 153 = .ok (.ifCond .ne 12, 3) := by decide +kernel
theorem d_xReader_takeNumeral_156 : decode prog_6_method_9_code 156 = .ok (.iconst 1, 1) := by decide +kernel
theorem d_xReader_takeNumeral_157 : decode prog_6_method_9_code 157 = .ok (.istore 8, 2) := by decide +kernel
theorem d_xReader_takeNumeral_159 : decode prog_6_method_9_code 159 = .ok (.iinc 3 1, 3) := by decide +kernel
theorem d_xReader_takeNumeral_162 : decode prog_6_method_9_code 162 = .ok (.goto (-94), 3) := by decide +kernel
theorem d_xReader_takeNumeral_165 : decode prog_6_method_9_code 165 = .ok (.iload 6, 2) := by decide +kernel
theorem d_xReader_takeNumeral_167 : decode prog_6_method_9_code 167 = .ok (.ifCond .eq 24, 3) := by decide +kernel
theorem d_xReader_takeNumeral_170 : decode prog_6_method_9_code 170 = .ok (.iload 6, 2) := by decide +kernel
theorem d_xReader_takeNumeral_172 : decode prog_6_method_9_code 172 = .ok (.bipush 9, 2) := by decide +kernel
theorem d_xReader_takeNumeral_174 : decode prog_6_method_9_code 174 = .ok (.if_icmp .gt 17, 3) := by decide +kernel
theorem d_xReader_takeNumeral_177 : decode prog_6_method_9_code 177 = .ok (.iload 7, 2) := by decide +kernel
theorem d_xReader_takeNumeral_179 : decode prog_6_method_9_code 179 = .ok (.ifCond .lt 12, 3) := by decide +kernel
theorem d_xReader_takeNumeral_182 : decode prog_6_method_9_code 182 = .ok (.iload 7, 2) := by decide +kernel
theorem d_xReader_takeNumeral_184 : decode prog_6_method_9_code 184 = .ok (.getstatic 123, 3) := by decide +kernel
theorem d_xReader_takeNumeral_187 : decode prog_6_method_9_code 187 = .ok (.arraylength, 1) := by decide +kernel
theorem d_xReader_takeNumeral_188 : decode prog_6_method_9_code 188 = .ok (.if_icmp .lt 5, 3) := by decide +kernel
theorem d_xReader_takeNumeral_191 : decode prog_6_method_9_code 191 = .ok (.iconst 0, 1) := by decide +kernel
theorem d_xReader_takeNumeral_192 : decode prog_6_method_9_code 192 = .ok (.ireturn, 1) := by decide +kernel
theorem d_xReader_takeNumeral_193 : decode prog_6_method_9_code 193 = .ok (.iload_n 2, 1) := by decide +kernel
theorem d_xReader_takeNumeral_194 : decode prog_6_method_9_code 194 = .ok (.ifCond .eq 9, 3) := by decide +kernel
theorem d_xReader_takeNumeral_197 : decode prog_6_method_9_code 197 = .ok (.lload 4, 2) := by decide +kernel
theorem d_xReader_takeNumeral_199 : decode prog_6_method_9_code 199 = .ok (.lneg, 1) := by decide +kernel
theorem d_xReader_takeNumeral_200 : decode prog_6_method_9_code 200 = .ok (.goto 5, 3) := by decide +kernel
theorem d_xReader_takeNumeral_203 : decode prog_6_method_9_code 203 = .ok (.lload 4, 2) := by decide +kernel
theorem d_xReader_takeNumeral_205 : decode prog_6_method_9_code 205 = .ok (.ldc2_w 126, 3) := by decide +kernel
theorem d_xReader_takeNumeral_208 : decode prog_6_method_9_code 208 = .ok (.lmul, 1) := by decide +kernel
theorem d_xReader_takeNumeral_209 : decode prog_6_method_9_code 209 = .ok (.getstatic 123, 3) := by decide +kernel
theorem d_xReader_takeNumeral_212 : decode prog_6_method_9_code 212 = .ok (.iload 7, 2) := by decide +kernel
theorem d_xReader_takeNumeral_214 : decode prog_6_method_9_code 214 = .ok (.laload, 1) := by decide +kernel
theorem d_xReader_takeNumeral_215 : decode prog_6_method_9_code 215 = .ok (.invokestatic 128, 3) := by decide +kernel
theorem d_xReader_takeNumeral_218 : decode prog_6_method_9_code 218 = .ok (.lstore 9, 2) := by decide +kernel
theorem d_xReader_takeNumeral_220 : decode prog_6_method_9_code 220 = .ok (.lload 9, 2) := by decide +kernel
theorem d_xReader_takeNumeral_222 : decode prog_6_method_9_code 222 = .ok (.invokestatic 132, 3) := by decide +kernel
theorem d_xReader_takeNumeral_225 : decode prog_6_method_9_code 225 = .ok (.ifCond .eq 13, 3) := by decide +kernel
theorem d_xReader_takeNumeral_228 : decode prog_6_method_9_code 228 = .ok (.iload_n 1, 1) := by decide +kernel
theorem d_xReader_takeNumeral_229 : decode prog_6_method_9_code 229 = .ok (.ifCond .lt 9, 3) := by decide +kernel
theorem d_xReader_takeNumeral_232 : decode prog_6_method_9_code 232 = .ok (.iload_n 1, 1) := by decide +kernel
theorem d_xReader_takeNumeral_233 : decode prog_6_method_9_code 233 = .ok (.bipush 6, 2) := by decide +kernel
theorem d_xReader_takeNumeral_235 : decode prog_6_method_9_code 235 = .ok (.if_icmp .lt 5, 3) := by decide +kernel
theorem d_xReader_takeNumeral_238 : decode prog_6_method_9_code 238 = .ok (.iconst 0, 1) := by decide +kernel
theorem d_xReader_takeNumeral_239 : decode prog_6_method_9_code 239 = .ok (.ireturn, 1) := by decide +kernel
theorem d_xReader_takeNumeral_240 : decode prog_6_method_9_code 240 = .ok (.aload_n 0, 1) := by decide +kernel
theorem d_xReader_takeNumeral_241 : decode prog_6_method_9_code 241 = .ok (.getfield 18, 3) := by decide +kernel
theorem d_xReader_takeNumeral_244 : decode prog_6_method_9_code 244 = .ok (.iload_n 1, 1) := by decide +kernel
theorem d_xReader_takeNumeral_245 : decode prog_6_method_9_code 245 = .ok (.lload 9, 2) := by decide +kernel
theorem d_xReader_takeNumeral_247 : decode prog_6_method_9_code 247 = .ok (.lastore, 1) := by decide +kernel
theorem d_xReader_takeNumeral_248 : decode prog_6_method_9_code 248 = .ok (.aload_n 0, 1) := by decide +kernel
theorem d_xReader_takeNumeral_249 : decode prog_6_method_9_code 249 = .ok (.iload_n 3, 1) := by decide +kernel
theorem d_xReader_takeNumeral_250 : decode prog_6_method_9_code 250 = .ok (.putfield 44, 3) := by decide +kernel
theorem d_xReader_takeNumeral_253 : decode prog_6_method_9_code 253 = .ok (.iconst 1, 1) := by decide +kernel
theorem d_xReader_takeNumeral_254 : decode prog_6_method_9_code 254 = .ok (.ireturn, 1) := by decide +kernel
theorem d_xReader_numeralFollows_0 : decode prog_6_method_10_code 0 = .ok (.aload_n 0, 1) := by decide +kernel
theorem d_xReader_numeralFollows_1 : decode prog_6_method_10_code 1 = .ok (.invokevirtual 51, 3) := by decide +kernel
theorem d_xReader_numeralFollows_4 : decode prog_6_method_10_code 4 = .ok (.aload_n 0, 1) := by decide +kernel
theorem d_xReader_numeralFollows_5 : decode prog_6_method_10_code 5 = .ok (.getfield 22, 3) := by decide +kernel
theorem d_xReader_numeralFollows_8 : decode prog_6_method_10_code 8 = .ok (.aload_n 0, 1) := by decide +kernel
theorem d_xReader_numeralFollows_9 : decode prog_6_method_10_code 9 = .ok (.getfield 44, 3) := by decide +kernel
theorem d_xReader_numeralFollows_12 : decode prog_6_method_10_code 12 = .ok (.invokevirtual 62, 3) := by decide +kernel
theorem d_xReader_numeralFollows_15 : decode prog_6_method_10_code 15 = .ok (.istore_n 1, 1) := by decide +kernel
theorem d_xReader_numeralFollows_16 : decode prog_6_method_10_code 16 = .ok (.iload_n 1, 1) := by decide +kernel
theorem d_xReader_numeralFollows_17 : decode prog_6_method_10_code 17 = .ok (.invokestatic 117, 3) := by decide +kernel
theorem d_xReader_numeralFollows_20 : decode prog_6_method_10_code 20 = .ok (.ifCond .ne 21, 3) := by decide +kernel
theorem d_xReader_numeralFollows_23 : decode prog_6_method_10_code 23 = .ok (.iload_n 1, 1) := by decide +kernel
theorem d_xReader_numeralFollows_24 : decode prog_6_method_10_code 24 = .ok (.bipush 43, 2) := by decide +kernel
theorem d_xReader_numeralFollows_26 : decode prog_6_method_10_code 26 = .ok (.if_icmp .eq 15, 3) := by decide +kernel
theorem d_xReader_numeralFollows_29 : decode prog_6_method_10_code 29 = .ok (.iload_n 1, 1) := by decide +kernel
theorem d_xReader_numeralFollows_30 : decode prog_6_method_10_code 30 = .ok (.bipush 45, 2) := by decide +kernel
theorem d_xReader_numeralFollows_32 : decode prog_6_method_10_code 32 = .ok (.if_icmp .eq 9, 3) := by decide +kernel
theorem d_xReader_numeralFollows_35 : decode prog_6_method_10_code 35 = .ok (.iload_n 1, 1) := by decide +kernel
theorem d_xReader_numeralFollows_36 : decode prog_6_method_10_code 36 = .ok (.bipush 46, 2) := by decide +kernel
theorem d_xReader_numeralFollows_38 : decode prog_6_method_10_code 38 = .ok (.if_icmp .ne 7, 3) := by decide +kernel
theorem d_xReader_numeralFollows_41 : decode prog_6_method_10_code 41 = .ok (.iconst 1, 1) := by decide +kernel
theorem d_xReader_numeralFollows_42 : decode prog_6_method_10_code 42 = .ok (.goto 4, 3) := by decide +kernel
theorem d_xReader_numeralFollows_45 : decode prog_6_method_10_code 45 = .ok (.iconst 0, 1) := by decide +kernel
theorem d_xReader_numeralFollows_46 : decode prog_6_method_10_code 46 = .ok (.ireturn, 1) := by decide +kernel
theorem d_xWriter_decimalNextTo_0 : decode prog_8_method_6_code 0 = .ok (.ldc2_w 71, 3) := by decide +kernel
theorem d_xWriter_decimalNextTo_3 : decode prog_8_method_6_code 3 = .ok (.lload_n 0, 1) := by decide +kernel
theorem d_xWriter_decimalNextTo_4 : decode prog_8_method_6_code 4 = .ok (.lmul, 1) := by decide +kernel
theorem d_xWriter_decimalNextTo_5 : decode prog_8_method_6_code 5 = .ok (.iload_n 2, 1) := by decide +kernel
theorem d_xWriter_decimalNextTo_6 : decode prog_8_method_6_code 6 = .ok (.invokestatic 53, 3) := by decide +kernel
theorem d_xWriter_decimalNextTo_9 : decode prog_8_method_6_code 9 = .ok (.lmul, 1) := by decide +kernel
theorem d_xWriter_decimalNextTo_10 : decode prog_8_method_6_code 10 = .ok (.ldc2_w 65, 3) := by decide +kernel
theorem d_xWriter_decimalNextTo_13 : decode prog_8_method_6_code 13 = .ok (.ladd, 1) := by decide +kernel
theorem d_xWriter_decimalNextTo_14 : decode prog_8_method_6_code 14 = .ok (.lconst 1, 1) := by decide +kernel
theorem d_xWriter_decimalNextTo_15 : decode prog_8_method_6_code 15 = .ok (.lsub, 1) := by decide +kernel
theorem d_xWriter_decimalNextTo_16 : decode prog_8_method_6_code 16 = .ok (.ldc2_w 73, 3) := by decide +kernel
theorem d_xWriter_decimalNextTo_19 : decode prog_8_method_6_code 19 = .ok (.invokestatic 75, 3) := by decide +kernel
theorem d_xWriter_decimalNextTo_22 : decode prog_8_method_6_code 22 = .ok (.lreturn, 1) := by decide +kernel
theorem d_xWriter_putWhole_0 : decode prog_8_method_8_code 0 = .ok (.iconst 1, 1) := by decide +kernel
theorem d_xWriter_putWhole_1 : decode prog_8_method_8_code 1 = .ok (.istore_n 3, 1) := by decide +kernel
theorem d_xWriter_putWhole_2 : decode prog_8_method_8_code 2 = .ok (.iload_n 3, 1) := by decide +kernel
theorem d_xWriter_putWhole_3 : decode prog_8_method_8_code 3 = .ok (.bipush 9, 2) := by decide +kernel
theorem d_xWriter_putWhole_5 : decode prog_8_method_8_code 5 = .ok (.if_icmp .ge 18, 3) := by decide +kernel
theorem d_xWriter_putWhole_8 : decode prog_8_method_8_code 8 = .ok (.lload_n 0, 1) := by decide +kernel
theorem d_xWriter_putWhole_9 : decode prog_8_method_8_code 9 = .ok (.iload_n 3, 1) := by decide +kernel
theorem d_xWriter_putWhole_10 : decode prog_8_method_8_code 10 = .ok (.invokestatic 53, 3) := by decide +kernel
theorem d_xWriter_putWhole_13 : decode prog_8_method_8_code 13 = .ok (.lcmp, 1) := by decide +kernel
theorem d_xWriter_putWhole_14 : decode prog_8_method_8_code 14 = .ok (.ifCond .lt 9, 3) := by decide +kernel
theorem d_xWriter_putWhole_17 : decode prog_8_method_8_code 17 = .ok (.iinc 3 1, 3) := by decide +kernel
theorem d_xWriter_putWhole_20 : decode prog_8_method_8_code 20 = .ok (.goto (-18), 3) := by decide +kernel
theorem d_xWriter_putWhole_23 : decode prog_8_method_8_code 23 = .ok (.lload_n 0, 1) := by decide +kernel
theorem d_xWriter_putWhole_24 : decode prog_8_method_8_code 24 = .ok (.iload_n 3, 1) := by decide +kernel
theorem d_xWriter_putWhole_25 : decode prog_8_method_8_code 25 = .ok (.aload_n 2, 1) := by decide +kernel
theorem d_xWriter_putWhole_26 : decode prog_8_method_8_code 26 = .ok (.invokestatic 61, 3) := by decide +kernel
theorem d_xWriter_putWhole_29 : decode prog_8_method_8_code 29 = .ok (.return_, 1) := by decide +kernel
theorem d_xCover_addCrossings_0 : decode prog_2_method_7_code 0 = .ok (.lload 7, 2) := by decide +kernel
theorem d_xCover_addCrossings_2 : decode prog_2_method_7_code 2 = .ok (.lload_n 3, 1) := by decide +kernel
theorem d_xCover_addCrossings_3 : decode prog_2_method_7_code 3 = .ok (.lsub, 1) := by decide +kernel
theorem d_xCover_addCrossings_4 : decode prog_2_method_7_code 4 = .ok (.lstore 10, 2) := by decide +kernel
theorem d_xCover_addCrossings_6 : decode prog_2_method_7_code 6 = .ok (.lload 10, 2) := by decide +kernel
theorem d_xCover_addCrossings_8 : decode prog_2_method_7_code 8 = .ok (.lconst 0, 1) := by decide +kernel
theorem d_xCover_addCrossings_9 : decode prog_2_method_7_code 9 = .ok (.lcmp, 1) := by decide +kernel
theorem d_xCover_addCrossings_10 : decode prog_2_method_7_code 10 = .ok (.ifCond .gt 4, 3) := by decide +kernel
theorem d_xCover_addCrossings_13 : decode prog_2_method_7_code 13 = .ok (.return_, 1) := by decide +kernel
theorem d_xCover_addCrossings_14 : decode prog_2_method_7_code 14 = .ok (.lload_n 3, 1) := by decide +kernel
theorem d_xCover_addCrossings_15 : decode prog_2_method_7_code 15 = .ok (.aload_n 0, 1) := by decide +kernel
theorem d_xCover_addCrossings_16 : decode prog_2_method_7_code 16 = .ok (.getfield 33, 3) := by decide +kernel
theorem d_xCover_addCrossings_19 : decode prog_2_method_7_code 19 = .ok (.lsub, 1) := by decide +kernel
theorem d_xCover_addCrossings_20 : decode prog_2_method_7_code 20 = .ok (.bipush 16, 2) := by decide +kernel
theorem d_xCover_addCrossings_22 : decode prog_2_method_7_code 22 = .ok (.invokestatic 93, 3) := by decide +kernel
theorem d_xCover_addCrossings_25 : decode prog_2_method_7_code 25 = .ok (.istore 12, 2) := by decide +kernel
theorem d_xCover_addCrossings_27 : decode prog_2_method_7_code 27 = .ok (.lload 7, 2) := by decide +kernel
theorem d_xCover_addCrossings_29 : decode prog_2_method_7_code 29 = .ok (.aload_n 0, 1) := by decide +kernel
theorem d_xCover_addCrossings_30 : decode prog_2_method_7_code 30 = .ok (.getfield 33, 3) := by decide +kernel
theorem d_xCover_addCrossings_33 : decode prog_2_method_7_code 33 = .ok (.lsub, 1) := by decide +kernel
theorem d_xCover_addCrossings_34 : decode prog_2_method_7_code 34 = .ok (.bipush 16, 2) := by decide +kernel
theorem d_xCover_addCrossings_36 : decode prog_2_method_7_code 36 = .ok (.invokestatic 93, 3) := by decide +kernel
theorem d_xCover_addCrossings_39 : decode prog_2_method_7_code 39 = .ok (.istore 13, 2) := by decide +kernel
theorem d_xCover_addCrossings_41 : decode prog_2_method_7_code 41 = .ok (.iload 12, 2) := by decide +kernel
theorem d_xCover_addCrossings_43 : decode prog_2_method_7_code 43 = .ok (.istore 14, 2) := by decide +kernel
theorem d_xCover_addCrossings_45 : decode prog_2_method_7_code 45 = .ok (.iload 14, 2) := by decide +kernel
theorem d_xCover_addCrossings_47 : decode prog_2_method_7_code 47 = .ok (.iload 13, 2) := by decide +kernel
theorem d_xCover_addCrossings_49 : decode prog_2_method_7_code 49 = .ok (.if_icmp .ge 83, 3) := by decide +kernel
theorem d_xCover_addCrossings_52 : decode prog_2_method_7_code 52 = .ok (.aload_n 0, 1) := by decide +kernel
theorem d_xCover_addCrossings_53 : decode prog_2_method_7_code 53 = .ok (.getfield 33, 3) := by decide +kernel
theorem d_xCover_addCrossings_56 : decode prog_2_method_7_code 56 = .ok (.ldc2_w 97, 3) := by decide +kernel
theorem d_xCover_addCrossings_59 : decode prog_2_method_7_code 59 = .ok (.ladd, 1) := by decide +kernel
theorem d_xCover_addCrossings_60 : decode prog_2_method_7_code 60 = .ok (.ldc2_w 79, 3) := by decide +kernel
theorem d_xCover_addCrossings_63 : decode prog_2_method_7_code 63 = .ok (.iload 14, 2) := by decide +kernel
theorem d_xCover_addCrossings_65 : decode prog_2_method_7_code 65 = .ok (.i2l, 1) := by decide +kernel
theorem d_xCover_addCrossings_66 : decode prog_2_method_7_code 66 = .ok (.lmul, 1) := by decide +kernel
theorem d_xCover_addCrossings_67 : decode prog_2_method_7_code 67 = .ok (.ladd, 1) := by decide +kernel
theorem d_xCover_addCrossings_68 : decode prog_2_method_7_code 68 = .ok (.lload_n 3, 1) := by decide +kernel
theorem d_xCover_addCrossings_69 : decode prog_2_method_7_code 69 = .ok (.lsub, 1) := by decide +kernel
theorem d_xCover_addCrossings_70 : decode prog_2_method_7_code 70 = .ok (.lstore 15, 2) := by decide +kernel
theorem d_xCover_addCrossings_72 : decode prog_2_method_7_code 72 = .ok (.lload_n 1, 1) := by decide +kernel
theorem d_xCover_addCrossings_73 : decode prog_2_method_7_code 73 = .ok (.lload 15, 2) := by decide +kernel
theorem d_xCover_addCrossings_75 : decode prog_2_method_7_code 75 = .ok (.lneg, 1) := by decide +kernel
theorem d_xCover_addCrossings_76 : decode prog_2_method_7_code 76 = .ok (.lload 5, 2) := by decide +kernel
theorem d_xCover_addCrossings_78 : decode prog_2_method_7_code 78 = .ok (.lload_n 1, 1) := by decide +kernel
theorem d_xCover_addCrossings_79 : decode prog_2_method_7_code 79 = .ok (.lsub, 1) := by decide +kernel
theorem d_xCover_addCrossings_80 : decode prog_2_method_7_code 80 = .ok (.lmul, 1) := by decide +kernel
theorem d_xCover_addCrossings_81 : decode prog_2_method_7_code 81 = .ok (.lload 10, 2) := by decide +kernel
theorem d_xCover_addCrossings_83 : decode prog_2_method_7_code 83 = .ok (.invokestatic 99, 3) := by decide +kernel
theorem d_xCover_addCrossings_86 : decode prog_2_method_7_code 86 = .ok (.lsub, 1) := by decide +kernel
theorem d_xCover_addCrossings_87 : decode prog_2_method_7_code 87 = .ok (.lstore 17, 2) := by decide +kernel
theorem d_xCover_addCrossings_89 : decode prog_2_method_7_code 89 = .ok (.lload 17, 2) := by decide +kernel
theorem d_xCover_addCrossings_91 : decode prog_2_method_7_code 91 = .ok (.sipush 128, 3) := by decide +kernel
theorem d_xCover_addCrossings_94 : decode prog_2_method_7_code 94 = .ok (.invokestatic 93, 3) := by decide +kernel
theorem d_xCover_addCrossings_97 : decode prog_2_method_7_code 97 = .ok (.istore 19, 2) := by decide +kernel
theorem d_xCover_addCrossings_99 : decode prog_2_method_7_code 99 = .ok (.iload 19, 2) := by decide +kernel
theorem d_xCover_addCrossings_101 : decode prog_2_method_7_code 101 = .ok (.sipush 128, 3) := by decide +kernel
theorem d_xCover_addCrossings_104 : decode prog_2_method_7_code 104 = .ok (.if_icmp .ge 22, 3) := by decide +kernel
theorem d_xCover_addCrossings_107 : decode prog_2_method_7_code 107 = .ok (.aload_n 0, 1) := by decide +kernel
theorem d_xCover_addCrossings_108 : decode prog_2_method_7_code 108 = .ok (.getfield 15, 3) := by decide +kernel
theorem d_xCover_addCrossings_111 : decode prog_2_method_7_code 111 = .ok (.iload 14, 2) := by decide +kernel
theorem d_xCover_addCrossings_113 : decode prog_2_method_7_code 113 = .ok (.sipush 128, 3) := by decide +kernel
theorem d_xCover_addCrossings_116 : decode prog_2_method_7_code 116 = .ok (.imul, 1) := by decide +kernel
theorem d_xCover_addCrossings_117 : decode prog_2_method_7_code 117 = .ok (.iload 19, 2) := by decide +kernel
theorem d_xCover_addCrossings_119 : decode prog_2_method_7_code 119 = .ok (.iadd, 1) := by decide +kernel
theorem d_xCover_addCrossings_120 : decode prog_2_method_7_code 120 = .ok (.dup2, 1) := by decide +kernel
theorem d_xCover_addCrossings_121 : decode prog_2_method_7_code 121 = .ok (.iaload, 1) := by decide +kernel
theorem d_xCover_addCrossings_122 : decode prog_2_method_7_code 122 = .ok (.iload 9, 2) := by decide +kernel
theorem d_xCover_addCrossings_124 : decode prog_2_method_7_code 124 = .ok (.iadd, 1) := by decide +kernel
theorem d_xCover_addCrossings_125 : decode prog_2_method_7_code 125 = .ok (.iastore, 1) := by decide +kernel
theorem d_xCover_addCrossings_126 : decode prog_2_method_7_code 126 = .ok (.iinc 14 1, 3) := by decide +kernel
theorem d_xCover_addCrossings_129 : decode prog_2_method_7_code 129 = .ok (.goto (-84), 3) := by decide +kernel
theorem d_xCover_addCrossings_132 : decode prog_2_method_7_code 132 = .ok (.return_, 1) := by decide +kernel
theorem d_xP_move_0 : decode prog_1_method_4_code 0 = .ok (.aload_n 0, 1) := by decide +kernel
theorem d_xP_move_1 : decode prog_1_method_4_code 1 = .ok (.getfield 37, 3) := by decide +kernel
theorem d_xP_move_4 : decode prog_1_method_4_code 4 = .ok (.iconst 0, 1) := by decide +kernel
theorem d_xP_move_5 : decode prog_1_method_4_code 5 = .ok (.iload_n 1, 1) := by decide +kernel
theorem d_xP_move_6 : decode prog_1_method_4_code 6 = .ok (.i2l, 1) := by decide +kernel
theorem d_xP_move_7 : decode prog_1_method_4_code 7 = .ok (.lastore, 1) := by decide +kernel
theorem d_xP_move_8 : decode prog_1_method_4_code 8 = .ok (.aload_n 0, 1) := by decide +kernel
theorem d_xP_move_9 : decode prog_1_method_4_code 9 = .ok (.getfield 37, 3) := by decide +kernel
theorem d_xP_move_12 : decode prog_1_method_4_code 12 = .ok (.iconst 1, 1) := by decide +kernel
theorem d_xP_move_13 : decode prog_1_method_4_code 13 = .ok (.iload_n 2, 1) := by decide +kernel
theorem d_xP_move_14 : decode prog_1_method_4_code 14 = .ok (.i2l, 1) := by decide +kernel
theorem d_xP_move_15 : decode prog_1_method_4_code 15 = .ok (.lastore, 1) := by decide +kernel
theorem d_xP_move_16 : decode prog_1_method_4_code 16 = .ok (.aload_n 0, 1) := by decide +kernel
theorem d_xP_move_17 : decode prog_1_method_4_code 17 = .ok (.iconst 0, 1) := by decide +kernel
theorem d_xP_move_18 : decode prog_1_method_4_code 18 = .ok (.invokevirtual 81, 3) := by decide +kernel
theorem d_xP_move_21 : decode prog_1_method_4_code 21 = .ok (.ireturn, 1) := by decide +kernel
theorem d_xP_line_0 : decode prog_1_method_5_code 0 = .ok (.aload_n 0, 1) := by decide +kernel
theorem d_xP_line_1 : decode prog_1_method_5_code 1 = .ok (.getfield 37, 3) := by decide +kernel
theorem d_xP_line_4 : decode prog_1_method_5_code 4 = .ok (.iconst 0, 1) := by decide +kernel
theorem d_xP_line_5 : decode prog_1_method_5_code 5 = .ok (.iload_n 1, 1) := by decide +kernel
theorem d_xP_line_6 : decode prog_1_method_5_code 6 = .ok (.i2l, 1) := by decide +kernel
theorem d_xP_line_7 : decode prog_1_method_5_code 7 = .ok (.lastore, 1) := by decide +kernel
theorem d_xP_line_8 : decode prog_1_method_5_code 8 = .ok (.aload_n 0, 1) := by decide +kernel
theorem d_xP_line_9 : decode prog_1_method_5_code 9 = .ok (.getfield 37, 3) := by decide +kernel
theorem d_xP_line_12 : decode prog_1_method_5_code 12 = .ok (.iconst 1, 1) := by decide +kernel
theorem d_xP_line_13 : decode prog_1_method_5_code 13 = .ok (.iload_n 2, 1) := by decide +kernel
theorem d_xP_line_14 : decode prog_1_method_5_code 14 = .ok (.i2l, 1) := by decide +kernel
theorem d_xP_line_15 : decode prog_1_method_5_code 15 = .ok (.lastore, 1) := by decide +kernel
theorem d_xP_line_16 : decode prog_1_method_5_code 16 = .ok (.aload_n 0, 1) := by decide +kernel
theorem d_xP_line_17 : decode prog_1_method_5_code 17 = .ok (.iconst 1, 1) := by decide +kernel
theorem d_xP_line_18 : decode prog_1_method_5_code 18 = .ok (.invokevirtual 81, 3) := by decide +kernel
theorem d_xP_line_21 : decode prog_1_method_5_code 21 = .ok (.ireturn, 1) := by decide +kernel
theorem d_xP_cubic_0 : decode prog_1_method_6_code 0 = .ok (.aload_n 0, 1) := by decide +kernel
theorem d_xP_cubic_1 : decode prog_1_method_6_code 1 = .ok (.getfield 37, 3) := by decide +kernel
theorem d_xP_cubic_4 : decode prog_1_method_6_code 4 = .ok (.iconst 0, 1) := by decide +kernel
theorem d_xP_cubic_5 : decode prog_1_method_6_code 5 = .ok (.iload_n 1, 1) := by decide +kernel
theorem d_xP_cubic_6 : decode prog_1_method_6_code 6 = .ok (.i2l, 1) := by decide +kernel
theorem d_xP_cubic_7 : decode prog_1_method_6_code 7 = .ok (.lastore, 1) := by decide +kernel
theorem d_xP_cubic_8 : decode prog_1_method_6_code 8 = .ok (.aload_n 0, 1) := by decide +kernel
theorem d_xP_cubic_9 : decode prog_1_method_6_code 9 = .ok (.getfield 37, 3) := by decide +kernel
theorem d_xP_cubic_12 : decode prog_1_method_6_code 12 = .ok (.iconst 1, 1) := by decide +kernel
theorem d_xP_cubic_13 : decode prog_1_method_6_code 13 = .ok (.iload_n 2, 1) := by decide +kernel
theorem d_xP_cubic_14 : decode prog_1_method_6_code 14 = .ok (.i2l, 1) := by decide +kernel
theorem d_xP_cubic_15 : decode prog_1_method_6_code 15 = .ok (.lastore, 1) := by decide +kernel
theorem d_xP_cubic_16 : decode prog_1_method_6_code 16 = .ok (.aload_n 0, 1) := by decide +kernel
theorem d_xP_cubic_17 : decode prog_1_method_6_code 17 = .ok (.getfield 37, 3) := by decide +kernel
theorem d_xP_cubic_20 : decode prog_1_method_6_code 20 = .ok (.iconst 2, 1) := by decide +kernel
theorem d_xP_cubic_21 : decode prog_1_method_6_code 21 = .ok (.iload_n 3, 1) := by decide +kernel
theorem d_xP_cubic_22 : decode prog_1_method_6_code 22 = .ok (.i2l, 1) := by decide +kernel
theorem d_xP_cubic_23 : decode prog_1_method_6_code 23 = .ok (.lastore, 1) := by decide +kernel
theorem d_xP_cubic_24 : decode prog_1_method_6_code 24 = .ok (.aload_n 0, 1) := by decide +kernel
theorem d_xP_cubic_25 : decode prog_1_method_6_code 25 = .ok (.getfield 37, 3) := by decide +kernel
theorem d_xP_cubic_28 : decode prog_1_method_6_code 28 = .ok (.iconst 3, 1) := by decide +kernel
theorem d_xP_cubic_29 : decode prog_1_method_6_code 29 = .ok (.iload 4, 2) := by decide +kernel
theorem d_xP_cubic_31 : decode prog_1_method_6_code 31 = .ok (.i2l, 1) := by decide +kernel
theorem d_xP_cubic_32 : decode prog_1_method_6_code 32 = .ok (.lastore, 1) := by decide +kernel
theorem d_xP_cubic_33 : decode prog_1_method_6_code 33 = .ok (.aload_n 0, 1) := by decide +kernel
theorem d_xP_cubic_34 : decode prog_1_method_6_code 34 = .ok (.getfield 37, 3) := by decide +kernel
theorem d_xP_cubic_37 : decode prog_1_method_6_code 37 = .ok (.iconst 4, 1) := by decide +kernel
theorem d_xP_cubic_38 : decode prog_1_method_6_code 38 = .ok (.iload 5, 2) := by decide +kernel
theorem d_xP_cubic_40 : decode prog_1_method_6_code 40 = .ok (.i2l, 1) := by decide +kernel
theorem d_xP_cubic_41 : decode prog_1_method_6_code 41 = .ok (.lastore, 1) := by decide +kernel
theorem d_xP_cubic_42 : decode prog_1_method_6_code 42 = .ok (.aload_n 0, 1) := by decide +kernel
theorem d_xP_cubic_43 : decode prog_1_method_6_code 43 = .ok (.getfield 37, 3) := by decide +kernel
theorem d_xP_cubic_46 : decode prog_1_method_6_code 46 = .ok (.iconst 5, 1) := by decide +kernel
theorem d_xP_cubic_47 : decode prog_1_method_6_code 47 = .ok (.iload 6, 2) := by decide +kernel
theorem d_xP_cubic_49 : decode prog_1_method_6_code 49 = .ok (.i2l, 1) := by decide +kernel
theorem d_xP_cubic_50 : decode prog_1_method_6_code 50 = .ok (.lastore, 1) := by decide +kernel
theorem d_xP_cubic_51 : decode prog_1_method_6_code 51 = .ok (.aload_n 0, 1) := by decide +kernel
theorem d_xP_cubic_52 : decode prog_1_method_6_code 52 = .ok (.iconst 2, 1) := by decide +kernel
theorem d_xP_cubic_53 : decode prog_1_method_6_code 53 = .ok (.invokevirtual 81, 3) := by decide +kernel
theorem d_xP_cubic_56 : decode prog_1_method_6_code 56 = .ok (.ireturn, 1) := by decide +kernel
theorem d_xP_close_0 : decode prog_1_method_7_code 0 = .ok (.aload_n 0, 1) := by decide +kernel
theorem d_xP_close_1 : decode prog_1_method_7_code 1 = .ok (.iconst 3, 1) := by decide +kernel
theorem d_xP_close_2 : decode prog_1_method_7_code 2 = .ok (.invokevirtual 81, 3) := by decide +kernel
theorem d_xP_close_5 : decode prog_1_method_7_code 5 = .ok (.ireturn, 1) := by decide +kernel
theorem d_xReader_takeNumbers_0 : decode prog_6_method_8_code 0 = .ok (.iconst 0, 1) := by decide +kernel
theorem d_xReader_takeNumbers_1 : decode prog_6_method_8_code 1 = .ok (.istore_n 2, 1) := by decide +kernel
theorem d_xReader_takeNumbers_2 : decode prog_6_method_8_code 2 = .ok (.iload_n 2, 1) := by decide +kernel
theorem d_xReader_takeNumbers_3 : decode prog_6_method_8_code 3 = .ok (.iload_n 1, 1) := by decide +kernel
theorem d_xReader_takeNumbers_4 : decode prog_6_method_8_code 4 = .ok (.if_icmp .ge 36, 3) := by decide +kernel
theorem d_xReader_takeNumbers_7 : decode prog_6_method_8_code 7 = .ok (.iload_n 2, 1) := by decide +kernel
theorem d_xReader_takeNumbers_8 : decode prog_6_method_8_code 8 = .ok (.bipush 6, 2) := by decide +kernel
theorem d_xReader_takeNumbers_10 : decode prog_6_method_8_code 10 = .ok (.if_icmp .ge 30, 3) := by decide +kernel
theorem d_xReader_takeNumbers_13 : decode prog_6_method_8_code 13 = .ok (.aload_n 0, 1) := by decide +kernel
theorem d_xReader_takeNumbers_14 : decode prog_6_method_8_code 14 = .ok (.invokevirtual 51, 3) := by decide +kernel
theorem d_xReader_takeNumbers_17 : decode prog_6_method_8_code 17 = .ok (.aload_n 0, 1) := by decide +kernel
theorem d_xReader_takeNumbers_18 : decode prog_6_method_8_code 18 = .ok (.iload_n 2, 1) := by decide +kernel
theorem d_xReader_takeNumbers_19 : decode prog_6_method_8_code 19 = .ok (.invokevirtual 114, 3) := by decide +kernel
theorem d_xReader_takeNumbers_22 : decode prog_6_method_8_code 22 = .ok (.ifCond .ne 12, 3) := by decide +kernel
theorem d_xReader_takeNumbers_25 : decode prog_6_method_8_code 25 = .ok (.aload_n 0, 1) := by decide +kernel
theorem d_xReader_takeNumbers_26 : decode prog_6_method_8_code 26 = .ok (.aload_n 0, 1) := by decide +kernel
theorem d_xReader_takeNumbers_27 : decode prog_6_method_8_code 27 = .ok (.getfield 44, 3) := by decide +kernel
theorem d_xReader_takeNumbers_30 : decode prog_6_method_8_code 30 = .ok (.invokevirtual 83, 3) := by decide +kernel
theorem d_xReader_takeNumbers_33 : decode prog_6_method_8_code 33 = .ok (.ireturn, 1) := by decide +kernel
theorem d_xReader_takeNumbers_34 : decode prog_6_method_8_code 34 = .ok (.iinc 2 1, 3) := by decide +kernel
theorem d_xReader_takeNumbers_37 : decode prog_6_method_8_code 37 = .ok (.goto (-35), 3) := by decide +kernel
theorem d_xReader_takeNumbers_40 : decode prog_6_method_8_code 40 = .ok (.iconst 1, 1) := by decide +kernel
theorem d_xReader_takeNumbers_41 : decode prog_6_method_8_code 41 = .ok (.ireturn, 1) := by decide +kernel
theorem d_xWriter_leastDigitsBehind_0 : decode prog_8_method_5_code 0 = .ok (.iconst 0, 1) := by decide +kernel
theorem d_xWriter_leastDigitsBehind_1 : decode prog_8_method_5_code 1 = .ok (.istore_n 3, 1) := by decide +kernel
theorem d_xWriter_leastDigitsBehind_2 : decode prog_8_method_5_code 2 = .ok (.iload_n 3, 1) := by decide +kernel
theorem d_xWriter_leastDigitsBehind_3 : decode prog_8_method_5_code 3 = .ok (.iconst 3, 1) := by decide +kernel
theorem d_xWriter_leastDigitsBehind_4 : decode prog_8_method_5_code 4 = .ok (.if_icmp .ge 51, 3) := by decide +kernel
theorem d_xWriter_leastDigitsBehind_7 : decode prog_8_method_5_code 7 = .ok (.lload_n 1, 1) := by decide +kernel
theorem d_xWriter_leastDigitsBehind_8 : decode prog_8_method_5_code 8 = .ok (.iload_n 3, 1) := by decide +kernel
theorem d_xWriter_leastDigitsBehind_9 : decode prog_8_method_5_code 9 = .ok (.invokestatic 49, 3) := by decide +kernel
theorem d_xWriter_leastDigitsBehind_12 : decode prog_8_method_5_code 12 = .ok (.lstore 4, 2) := by decide +kernel
theorem d_xWriter_leastDigitsBehind_14 : decode prog_8_method_5_code 14 = .ok (.iload_n 0, 1) := by decide +kernel
theorem d_xWriter_leastDigitsBehind_15 : decode prog_8_method_5_code 15 = .ok (.ifCond .ge 9, 3) := by decide +kernel
theorem d_xWriter_leastDigitsBehind_18 : decode prog_8_method_5_code 18 = .ok (.lload 4, 2) := by decide +kernel
theorem d_xWriter_leastDigitsBehind_20 : decode prog_8_method_5_code 20 = .ok (.lneg, 1) := by decide +kernel
theorem d_xWriter_leastDigitsBehind_21 : decode prog_8_method_5_code 21 = .ok (.goto 5, 3) := by decide +kernel
theorem d_xWriter_leastDigitsBehind_24 : decode prog_8_method_5_code 24 = .ok (.lload 4, 2) := by decide +kernel
theorem d_xWriter_leastDigitsBehind_26 : decode prog_8_method_5_code 26 = .ok (.ldc2_w 65, 3) := by decide +kernel
theorem d_xWriter_leastDigitsBehind_29 : decode prog_8_method_5_code 29 = .ok (.lmul, 1) := by decide +kernel
theorem d_xWriter_leastDigitsBehind_30 : decode prog_8_method_5_code 30 = .ok (.iload_n 3, 1) := by decide +kernel
theorem d_xWriter_leastDigitsBehind_31 : decode prog_8_method_5_code 31 = .ok (.invokestatic 53, 3) := by decide +kernel
theorem d_xWriter_leastDigitsBehind_34 : decode prog_8_method_5_code 34 = .ok (.invokestatic 67, 3) := by decide +kernel
theorem d_xWriter_leastDigitsBehind_37 : decode prog_8_method_5_code 37 = .ok (.lstore 6, 2) := by decide +kernel
theorem d_xWriter_leastDigitsBehind_39 : decode prog_8_method_5_code 39 = .ok (.lload 6, 2) := by decide +kernel
theorem d_xWriter_leastDigitsBehind_41 : decode prog_8_method_5_code 41 = .ok (.iload_n 0, 1) := by decide +kernel
theorem d_xWriter_leastDigitsBehind_42 : decode prog_8_method_5_code 42 = .ok (.i2l, 1) := by decide +kernel
theorem d_xWriter_leastDigitsBehind_43 : decode prog_8_method_5_code 43 = .ok (.lcmp, 1) := by decide +kernel
theorem d_xWriter_leastDigitsBehind_44 : decode prog_8_method_5_code 44 = .ok (.ifCond .ne 5, 3) := by decide +kernel
theorem d_xWriter_leastDigitsBehind_47 : decode prog_8_method_5_code 47 = .ok (.iload_n 3, 1) := by decide +kernel
theorem d_xWriter_leastDigitsBehind_48 : decode prog_8_method_5_code 48 = .ok (.ireturn, 1) := by decide +kernel
theorem d_xWriter_leastDigitsBehind_49 : decode prog_8_method_5_code 49 = .ok (.iinc 3 1, 3) := by decide +kernel
theorem d_xWriter_leastDigitsBehind_52 : decode prog_8_method_5_code 52 = .ok (.goto (-50), 3) := by decide +kernel
theorem d_xWriter_leastDigitsBehind_55 : decode prog_8_method_5_code 55 = .ok (.iconst 3, 1) := by decide +kernel
theorem d_xWriter_leastDigitsBehind_56 : decode prog_8_method_5_code 56 = .ok (.ireturn, 1) := by decide +kernel
theorem d_xCover_addEdge_0 : decode prog_2_method_6_code 0 = .ok (.aload_n 0, 1) := by decide +kernel
theorem d_xCover_addEdge_1 : decode prog_2_method_6_code 1 = .ok (.getfield 69, 3) := by decide +kernel
theorem d_xCover_addEdge_4 : decode prog_2_method_6_code 4 = .ok (.lload_n 3, 1) := by decide +kernel
theorem d_xCover_addEdge_5 : decode prog_2_method_6_code 5 = .ok (.lcmp, 1) := by decide +kernel
theorem d_xCover_addEdge_6 : decode prog_2_method_6_code 6 = .ok (.ifCond .ge 21, 3) := by decide +kernel
theorem d_xCover_addEdge_9 : decode prog_2_method_6_code 9 = .ok (.aload_n 0, 1) := by decide +kernel
theorem d_xCover_addEdge_10 : decode prog_2_method_6_code 10 = .ok (.aload_n 0, 1) := by decide +kernel
theorem d_xCover_addEdge_11 : decode prog_2_method_6_code 11 = .ok (.getfield 66, 3) := by decide +kernel
theorem d_xCover_addEdge_14 : decode prog_2_method_6_code 14 = .ok (.aload_n 0, 1) := by decide +kernel
theorem d_xCover_addEdge_15 : decode prog_2_method_6_code 15 = .ok (.getfield 69, 3) := by decide +kernel
theorem d_xCover_addEdge_18 : decode prog_2_method_6_code 18 = .ok (.lload_n 1, 1) := by decide +kernel
theorem d_xCover_addEdge_19 : decode prog_2_method_6_code 19 = .ok (.lload_n 3, 1) := by decide +kernel
theorem d_xCover_addEdge_20 : decode prog_2_method_6_code 20 = .ok (.iconst 1, 1) := by decide +kernel
theorem d_xCover_addEdge_21 : decode prog_2_method_6_code 21 = .ok (.invokevirtual 89, 3) := by decide +kernel
theorem d_xCover_addEdge_24 : decode prog_2_method_6_code 24 = .ok (.goto 18, 3) := by decide +kernel
theorem d_xCover_addEdge_27 : decode prog_2_method_6_code 27 = .ok (.aload_n 0, 1) := by decide +kernel
theorem d_xCover_addEdge_28 : decode prog_2_method_6_code 28 = .ok (.lload_n 1, 1) := by decide +kernel
theorem d_xCover_addEdge_29 : decode prog_2_method_6_code 29 = .ok (.lload_n 3, 1) := by decide +kernel
theorem d_xCover_addEdge_30 : decode prog_2_method_6_code 30 = .ok (.aload_n 0, 1) := by decide +kernel
theorem d_xCover_addEdge_31 : decode prog_2_method_6_code 31 = .ok (.getfield 66, 3) := by decide +kernel
theorem d_xCover_addEdge_34 : decode prog_2_method_6_code 34 = .ok (.aload_n 0, 1) := by decide +kernel
theorem d_xCover_addEdge_35 : decode prog_2_method_6_code 35 = .ok (.getfield 69, 3) := by decide +kernel
theorem d_xCover_addEdge_38 : decode prog_2_method_6_code 38 = .ok (.iconst (-1), 1) := by decide +kernel
theorem d_xCover_addEdge_39 : decode prog_2_method_6_code 39 = .ok (.invokevirtual 89, 3) := by decide +kernel
theorem d_xCover_addEdge_42 : decode prog_2_method_6_code 42 = .ok (.aload_n 0, 1) := by decide +kernel
theorem d_xCover_addEdge_43 : decode prog_2_method_6_code 43 = .ok (.lload_n 1, 1) := by decide +kernel
theorem d_xCover_addEdge_44 : decode prog_2_method_6_code 44 = .ok (.putfield 66, 3) := by decide +kernel
theorem d_xCover_addEdge_47 : decode prog_2_method_6_code 47 = .ok (.aload_n 0, 1) := by decide +kernel
theorem d_xCover_addEdge_48 : decode prog_2_method_6_code 48 = .ok (.lload_n 3, 1) := by decide +kernel
theorem d_xCover_addEdge_49 : decode prog_2_method_6_code 49 = .ok (.putfield 69, 3) := by decide +kernel
theorem d_xCover_addEdge_52 : decode prog_2_method_6_code 52 = .ok (.return_, 1) := by decide +kernel
theorem d_xReader_takeOpening_0 : decode prog_6_method_3_code 0 = .ok (.aload_n 0, 1) := by decide +kernel
theorem d_xReader_takeOpening_1 : decode prog_6_method_3_code 1 = .ok (.getfield 12, 3) := by decide +kernel
theorem d_xReader_takeOpening_4 : decode prog_6_method_3_code 4 = .ok (.getfield 32, 3) := by decide +kernel
theorem d_xReader_takeOpening_7 : decode prog_6_method_3_code 7 = .ok (.invokevirtual 79, 3) := by decide +kernel
theorem d_xReader_takeOpening_10 : decode prog_6_method_3_code 10 = .ok (.ifCond .eq 9, 3) := by decide +kernel
theorem d_xReader_takeOpening_13 : decode prog_6_method_3_code 13 = .ok (.aload_n 0, 1) := by decide +kernel
theorem d_xReader_takeOpening_14 : decode prog_6_method_3_code 14 = .ok (.iload_n 1, 1) := by decide +kernel
theorem d_xReader_takeOpening_15 : decode prog_6_method_3_code 15 = .ok (.invokevirtual 83, 3) := by decide +kernel
theorem d_xReader_takeOpening_18 : decode prog_6_method_3_code 18 = .ok (.ireturn, 1) := by decide +kernel
theorem d_xReader_takeOpening_19 : decode prog_6_method_3_code 19 = .ok (.aload_n 0, 1) := by decide +kernel
theorem d_xReader_takeOpening_20 : decode prog_6_method_3_code 20 = .ok (.bipush 6, 2) := by decide +kernel
theorem d_xReader_takeOpening_22 : decode prog_6_method_3_code 22 = .ok (.invokevirtual 86, 3) := by decide +kernel
theorem d_xReader_takeOpening_25 : decode prog_6_method_3_code 25 = .ok (.ifCond .ne 5, 3) := by decide +kernel
theorem d_xReader_takeOpening_28 : decode prog_6_method_3_code 28 = .ok (.iconst 0, 1) := by decide +kernel
theorem d_xReader_takeOpening_29 : decode prog_6_method_3_code 29 = .ok (.ireturn, 1) := by decide +kernel
theorem d_xReader_takeOpening_30 : decode prog_6_method_3_code 30 = .ok (.aload_n 0, 1) := by decide +kernel
theorem d_xReader_takeOpening_31 : decode prog_6_method_3_code 31 = .ok (.getfield 12, 3) := by decide +kernel
theorem d_xReader_takeOpening_34 : decode prog_6_method_3_code 34 = .ok (.getfield 32, 3) := by decide +kernel
theorem d_xReader_takeOpening_37 : decode prog_6_method_3_code 37 = .ok (.aload_n 0, 1) := by decide +kernel
theorem d_xReader_takeOpening_38 : decode prog_6_method_3_code 38 = .ok (.getfield 18, 3) := by decide +kernel
theorem d_xReader_takeOpening_41 : decode prog_6_method_3_code 41 = .ok (.invokevirtual 89, 3) := by decide +kernel
theorem d_xReader_takeOpening_44 : decode prog_6_method_3_code 44 = .ok (.ifCond .ne 9, 3) := by decide +kernel
theorem d_xReader_takeOpening_47 : decode prog_6_method_3_code 47 = .ok (.aload_n 0, 1) := by decide +kernel
theorem d_xReader_takeOpening_48 : decode prog_6_method_3_code 48 = .ok (.iload_n 1, 1) := by decide +kernel
theorem d_xReader_takeOpening_49 : decode prog_6_method_3_code 49 = .ok (.invokevirtual 83, 3) := by decide +kernel
theorem d_xReader_takeOpening_52 : decode prog_6_method_3_code 52 = .ok (.ireturn, 1) := by decide +kernel
theorem d_xReader_takeOpening_53 : decode prog_6_method_3_code 53 = .ok (.aload_n 0, 1) := by decide +kernel
theorem d_xReader_takeOpening_54 : decode prog_6_method_3_code 54 = .ok (.invokevirtual 93, 3) := by decide +kernel
theorem d_xReader_takeOpening_57 : decode prog_6_method_3_code 57 = .ok (.iconst 1, 1) := by decide +kernel
theorem d_xReader_takeOpening_58 : decode prog_6_method_3_code 58 = .ok (.ireturn, 1) := by decide +kernel
theorem d_xReader_takeLetter_0 : decode prog_6_method_6_code 0 = .ok (.iload_n 1, 1) := by decide +kernel
theorem d_xReader_takeLetter_1 : decode prog_6_method_6_code 1 = .ok (.bipush 97, 2) := by decide +kernel
theorem d_xReader_takeLetter_3 : decode prog_6_method_6_code 3 = .ok (.if_icmp .lt 13, 3) := by decide +kernel
theorem d_xReader_takeLetter_6 : decode prog_6_method_6_code 6 = .ok (.iload_n 1, 1) := by decide +kernel
theorem d_xReader_takeLetter_7 : decode prog_6_method_6_code 7 = .ok (.bipush 122, 2) := by decide +kernel
theorem d_xReader_takeLetter_9 : decode prog_6_method_6_code 9 = .ok (.if_icmp .gt 7, 3) := by decide +kernel
theorem d_xReader_takeLetter_12 : decode prog_6_method_6_code 12 = .ok (.iconst 1, 1) := by decide +kernel
theorem d_xReader_takeLetter_13 : decode prog_6_method_6_code 13 = .ok (.goto 4, 3) := by decide +kernel
theorem d_xReader_takeLetter_16 : decode prog_6_method_6_code 16 = .ok (.iconst 0, 1) := by decide +kernel
theorem d_xReader_takeLetter_17 : decode prog_6_method_6_code 17 = .ok (.istore 4, 2) := by decide +kernel
theorem d_xReader_takeLetter_19 : decode prog_6_method_6_code 19 = .ok (.iload 4, 2) := by decide +kernel
theorem d_xReader_takeLetter_21 : decode prog_6_method_6_code 21 = .ok (.ifCond .eq 14, 3) := by decide +kernel
theorem d_xReader_takeLetter_24 : decode prog_6_method_6_code 24 = .ok (.iload_n 1, 1) := by decide +kernel
theorem d_xReader_takeLetter_25 : decode prog_6_method_6_code 25 = .ok (.bipush 97, 2) := by decide +kernel
theorem d_xReader_takeLetter_27 : decode prog_6_method_6_code 27 = .ok (.isub, 1) := by decide +kernel
theorem d_xReader_takeLetter_28 : decode prog_6_method_6_code 28 = .ok (.bipush 65, 2) := by decide +kernel
theorem d_xReader_takeLetter_30 : decode prog_6_method_6_code 30 = .ok (.iadd, 1) := by decide +kernel
theorem d_xReader_takeLetter_31 : decode prog_6_method_6_code 31 = .ok (.i2c, 1) := by decide +kernel
theorem d_xReader_takeLetter_32 : decode prog_6_method_6_code 32 = .ok (.goto 4, 3) := by decide +kernel
theorem d_xReader_takeLetter_35 : decode prog_6_method_6_code 35 = .ok (.iload_n 1, 1) := by decide +kernel
theorem d_xReader_takeLetter_36 : decode prog_6_method_6_code 36 = .ok (.istore 5, 2) := by decide +kernel
theorem d_xReader_takeLetter_38 : decode prog_6_method_6_code 38 = .ok (.iload 5, 2) := by decide +kernel
theorem d_xReader_takeLetter_40 : decode prog_6_method_6_code 40 = .ok (.invokestatic 99, 3) := by decide +kernel
theorem d_xReader_takeLetter_43 : decode prog_6_method_6_code 43 = .ok (.istore 6, 2) := by decide +kernel
theorem d_xReader_takeLetter_45 : decode prog_6_method_6_code 45 = .ok (.iload 6, 2) := by decide +kernel
theorem d_xReader_takeLetter_47 : decode prog_6_method_6_code 47 = .ok (.iconst (-1), 1) := by decide +kernel
theorem d_xReader_takeLetter_48 : decode prog_6_method_6_code 48 = .ok (.if_icmp .eq 17, 3) := by decide +kernel
theorem d_xReader_takeLetter_51 : decode prog_6_method_6_code 51 = .ok (.aload_n 0, 1) := by decide +kernel
theorem d_xReader_takeLetter_52 : decode prog_6_method_6_code 52 = .ok (.getfield 47, 3) := by decide +kernel
theorem d_xReader_takeLetter_55 : decode prog_6_method_6_code 55 = .ok (.ifCond .eq 16, 3) := by decide +kernel
theorem d_xReader_takeLetter_58 : decode prog_6_method_6_code 58 = .ok (.iload 5, 2) := by decide +kernel
theorem d_xReader_takeLetter_60 : decode prog_6_method_6_code 60 = .ok (.bipush 77, 2) := by decide +kernel
theorem d_xReader_takeLetter_62 : decode prog_6_method_6_code 62 = .ok (.if_icmp .eq 9, 3) := by decide +kernel
theorem d_xReader_takeLetter_65 : decode prog_6_method_6_code 65 = .ok (.aload_n 0, 1) := by decide +kernel
theorem d_xReader_takeLetter_66 : decode prog_6_method_6_code 66 = .ok (.iload_n 2, 1) := by decide +kernel
theorem d_xReader_takeLetter_67 : decode prog_6_method_6_code 67 = .ok (.invokevirtual 83, 3) := by decide +kernel
theorem d_xReader_takeLetter_70 : decode prog_6_method_6_code 70 = .ok (.ireturn, 1) := by decide +kernel
theorem d_xReader_takeLetter_71 : decode prog_6_method_6_code 71 = .ok (.aload_n 0, 1) := by decide +kernel
theorem d_xReader_takeLetter_72 : decode prog_6_method_6_code 72 = .ok (.iconst 0, 1) := by decide +kernel
theorem d_xReader_takeLetter_73 : decode prog_6_method_6_code 73 = .ok (.putfield 47, 3) := by decide +kernel
theorem d_xReader_takeLetter_76 : decode prog_6_method_6_code 76 = .ok (.iconst 0, 1) := by decide +kernel
theorem d_xReader_takeLetter_77 : decode prog_6_method_6_code 77 = .ok (.istore 7, 2) := by decide +kernel
theorem d_xReader_takeLetter_79 : decode prog_6_method_6_code 79 = .ok (.iload 7, 2) := by decide +kernel
theorem d_xReader_takeLetter_81 : decode prog_6_method_6_code 81 = .ok (.sipush 1200, 3) := by decide +kernel
theorem d_xReader_takeLetter_84 : decode prog_6_method_6_code 84 = .ok (.if_icmp .gt 91, 3) := by decide +kernel
theorem d_xReader_takeLetter_87 : decode prog_6_method_6_code 87 = .ok (.aload_n 0, 1) := by decide +kernel
theorem d_xReader_takeLetter_88 : decode prog_6_method_6_code 88 = .ok (.iload 6, 2) := by decide +kernel
theorem d_xReader_takeLetter_90 : decode prog_6_method_6_code 90 = .ok (.invokevirtual 86, 3) := by decide +kernel
theorem d_xReader_takeLetter_93 : decode prog_6_method_6_code 93 = .ok (.ifCond .ne 5, 3) := by decide +kernel
theorem d_xReader_takeLetter_96 : decode prog_6_method_6_code 96 = .ok (.iconst 0, 1) := by decide +kernel
theorem d_xReader_takeLetter_97 : decode prog_6_method_6_code 97 = .ok (.ireturn, 1) := by decide +kernel
theorem d_xReader_takeLetter_98 : decode prog_6_method_6_code 98 = .ok (.iload 5, 2) := by decide +kernel
theorem d_xReader_takeLetter_100 : decode prog_6_method_6_code 100 = .ok (.bipush 77, 2) := by decide +kernel
theorem d_xReader_takeLetter_102 : decode prog_6_method_6_code 102 = .ok (.if_icmp .ne 13, 3) := by decide +kernel
theorem d_xReader_takeLetter_105 : decode prog_6_method_6_code 105 = .ok (.iload 7, 2) := by decide +kernel
theorem d_xReader_takeLetter_107 : decode prog_6_method_6_code 107 = .ok (.ifCond .le 8, 3) := by decide +kernel
theorem d_xReader_takeLetter_110 : decode prog_6_method_6_code 110 = .ok (.bipush 76, 2) := by decide +kernel
theorem d_xReader_takeLetter_112 : decode prog_6_method_6_code 112 = .ok (.goto 5, 3) := by decide +kernel
theorem d_xReader_takeLetter_115 : decode prog_6_method_6_code 115 = .ok (.iload 5, 2) := by decide +kernel
theorem d_xReader_takeLetter_117 : decode prog_6_method_6_code 117 = .ok (.istore 8, 2) := by decide +kernel
theorem d_xReader_takeLetter_119 : decode prog_6_method_6_code 119 = .ok (.aload_n 0, 1) := by decide +kernel
theorem d_xReader_takeLetter_120 : decode prog_6_method_6_code 120 = .ok (.getfield 12, 3) := by decide +kernel
theorem d_xReader_takeLetter_123 : decode prog_6_method_6_code 123 = .ok (.iload 8, 2) := by decide +kernel
theorem d_xReader_takeLetter_125 : decode prog_6_method_6_code 125 = .ok (.iload 4, 2) := by decide +kernel
theorem d_xReader_takeLetter_127 : decode prog_6_method_6_code 127 = .ok (.aload_n 0, 1) := by decide +kernel
theorem d_xReader_takeLetter_128 : decode prog_6_method_6_code 128 = .ok (.getfield 18, 3) := by decide +kernel
theorem d_xReader_takeLetter_131 : decode prog_6_method_6_code 131 = .ok (.invokevirtual 103, 3) := by decide +kernel
theorem d_xReader_takeLetter_134 : decode prog_6_method_6_code 134 = .ok (.istore 9, 2) := by decide +kernel
theorem d_xReader_takeLetter_136 : decode prog_6_method_6_code 136 = .ok (.aload_n 0, 1) := by decide +kernel
theorem d_xReader_takeLetter_137 : decode prog_6_method_6_code 137 = .ok (.getfield 12, 3) := by decide +kernel
theorem d_xReader_takeLetter_140 : decode prog_6_method_6_code 140 = .ok (.iload 9, 2) := by decide +kernel
theorem d_xReader_takeLetter_142 : decode prog_6_method_6_code 142 = .ok (.aload_n 3, 1) := by decide +kernel
theorem d_xReader_takeLetter_143 : decode prog_6_method_6_code 143 = .ok (.invokevirtual 107, 3) := by decide +kernel
theorem d_xReader_takeLetter_146 : decode prog_6_method_6_code 146 = .ok (.ifCond .ne 9, 3) := by decide +kernel
theorem d_xReader_takeLetter_149 : decode prog_6_method_6_code 149 = .ok (.aload_n 0, 1) := by decide +kernel
theorem d_xReader_takeLetter_150 : decode prog_6_method_6_code 150 = .ok (.iload_n 2, 1) := by decide +kernel
theorem d_xReader_takeLetter_151 : decode prog_6_method_6_code 151 = .ok (.invokevirtual 83, 3) := by decide +kernel
theorem d_xReader_takeLetter_154 : decode prog_6_method_6_code 154 = .ok (.ireturn, 1) := by decide +kernel
theorem d_xReader_takeLetter_155 : decode prog_6_method_6_code 155 = .ok (.iload 6, 2) := by decide +kernel
theorem d_xReader_takeLetter_157 : decode prog_6_method_6_code 157 = .ok (.ifCond .eq 10, 3) := by decide +kernel
theorem d_xReader_takeLetter_160 : decode prog_6_method_6_code 160 = .ok (.aload_n 0, 1) := by decide +kernel
theorem d_xReader_takeLetter_161 : decode prog_6_method_6_code 161 = .ok (.invokevirtual 111, 3) := by decide +kernel
theorem d_xReader_takeLetter_164 : decode prog_6_method_6_code 164 = .ok (.ifCond .ne 5, 3) := by decide +kernel
theorem d_xReader_takeLetter_167 : decode prog_6_method_6_code 167 = .ok (.iconst 1, 1) := by decide +kernel
theorem d_xReader_takeLetter_168 : decode prog_6_method_6_code 168 = .ok (.ireturn, 1) := by decide +kernel
theorem d_xReader_takeLetter_169 : decode prog_6_method_6_code 169 = .ok (.iinc 7 1, 3) := by decide +kernel
theorem d_xReader_takeLetter_172 : decode prog_6_method_6_code 172 = .ok (.goto (-93), 3) := by decide +kernel
theorem d_xReader_takeLetter_175 : decode prog_6_method_6_code 175 = .ok (.aload_n 0, 1) := by decide +kernel
theorem d_xReader_takeLetter_176 : decode prog_6_method_6_code 176 = .ok (.iload_n 2, 1) := by decide +kernel
theorem d_xReader_takeLetter_177 : decode prog_6_method_6_code 177 = .ok (.invokevirtual 83, 3) := by decide +kernel
theorem d_xReader_takeLetter_180 : decode prog_6_method_6_code 180 = .ok (.ireturn, 1) := by decide +kernel
theorem d_xWriter_writeNumeral_0 : decode prog_8_method_4_code 0 = .ok (.iload_n 0, 1) := by decide +kernel
theorem d_xWriter_writeNumeral_1 : decode prog_8_method_4_code 1 = .ok (.ifCond .ge 9, 3) := by decide +kernel
theorem d_xWriter_writeNumeral_4 : decode prog_8_method_4_code 4 = .ok (.iload_n 0, 1) := by decide +kernel
theorem d_xWriter_writeNumeral_5 : decode prog_8_method_4_code 5 = .ok (.i2l, 1) := by decide +kernel
theorem d_xWriter_writeNumeral_6 : decode prog_8_method_4_code 6 = .ok (.lneg, 1) := by decide +kernel
theorem d_xWriter_writeNumeral_7 : decode prog_8_method_4_code 7 = .ok (.goto 5, 3) := by decide +kernel
theorem d_xWriter_writeNumeral_10 : decode prog_8_method_4_code 10 = .ok (.iload_n 0, 1) := by decide +kernel
theorem d_xWriter_writeNumeral_11 : decode prog_8_method_4_code 11 = .ok (.i2l, 1) := by decide +kernel
theorem d_xWriter_writeNumeral_12 : decode prog_8_method_4_code 12 = .ok (.lstore 4, 2) := by decide +kernel
theorem d_xWriter_writeNumeral_14 : decode prog_8_method_4_code 14 = .ok (.iload_n 0, 1) := by decide +kernel
theorem d_xWriter_writeNumeral_15 : decode prog_8_method_4_code 15 = .ok (.lload 4, 2) := by decide +kernel
theorem d_xWriter_writeNumeral_17 : decode prog_8_method_4_code 17 = .ok (.invokestatic 45, 3) := by decide +kernel
theorem d_xWriter_writeNumeral_20 : decode prog_8_method_4_code 20 = .ok (.istore 6, 2) := by decide +kernel
theorem d_xWriter_writeNumeral_22 : decode prog_8_method_4_code 22 = .ok (.lload 4, 2) := by decide +kernel
theorem d_xWriter_writeNumeral_24 : decode prog_8_method_4_code 24 = .ok (.iload 6, 2) := by decide +kernel
theorem d_xWriter_writeNumeral_26 : decode prog_8_method_4_code 26 = .ok (.invokestatic 49, 3) := by decide +kernel
theorem d_xWriter_writeNumeral_29 : decode prog_8_method_4_code 29 = .ok (.lstore 7, 2) := by decide +kernel
theorem d_xWriter_writeNumeral_31 : decode prog_8_method_4_code 31 = .ok (.lload 7, 2) := by decide +kernel
theorem d_xWriter_writeNumeral_33 : decode prog_8_method_4_code 33 = .ok (.iload 6, 2) := by decide +kernel
theorem d_xWriter_writeNumeral_35 : decode prog_8_method_4_code 35 = .ok (.invokestatic 53, 3) := by decide +kernel
theorem d_xWriter_writeNumeral_38 : decode prog_8_method_4_code 38 = .ok (.ldiv, 1) := by decide +kernel
theorem d_xWriter_writeNumeral_39 : decode prog_8_method_4_code 39 = .ok (.lstore 9, 2) := by decide +kernel
theorem d_xWriter_writeNumeral_41 : decode prog_8_method_4_code 41 = .ok (.iload 6, 2) := by decide +kernel
theorem d_xWriter_writeNumeral_43 : decode prog_8_method_4_code 43 = .ok (.ifCond .le 14, 3) := by decide +kernel
theorem d_xWriter_writeNumeral_46 : decode prog_8_method_4_code 46 = .ok (.lload 9, 2) := by decide +kernel
theorem d_xWriter_writeNumeral_48 : decode prog_8_method_4_code 48 = .ok (.lconst 0, 1) := by decide +kernel
theorem d_xWriter_writeNumeral_49 : decode prog_8_method_4_code 49 = .ok (.lcmp, 1) := by decide +kernel
theorem d_xWriter_writeNumeral_50 : decode prog_8_method_4_code 50 = .ok (.ifCond .ne 7, 3) := by decide +kernel
theorem d_xWriter_writeNumeral_53 : decode prog_8_method_4_code 53 = .ok (.iconst 1, 1) := by decide +kernel
theorem d_xWriter_writeNumeral_54 : decode prog_8_method_4_code 54 = .ok (.goto 4, 3) := by decide +kernel
theorem d_xWriter_writeNumeral_57 : decode prog_8_method_4_code 57 = .ok (.iconst 0, 1) := by decide +kernel
theorem d_xWriter_writeNumeral_58 : decode prog_8_method_4_code 58 = .ok (.istore 11, 2) := by decide +kernel
theorem d_xWriter_writeNumeral_60 : decode prog_8_method_4_code 60 = .ok (.iload_n 1, 1) := by decide +kernel
theorem d_xWriter_writeNumeral_61 : decode prog_8_method_4_code 61 = .ok (.ifCond .ne 22, 3) := by decide +kernel
theorem d_xWriter_writeNumeral_64 : decode prog_8_method_4_code 64 = .ok (.iload_n 0, 1) := by decide +kernel
theorem d_xWriter_writeNumeral_65 : decode prog_8_method_4_code 65 = .ok (.ifCond .lt 18, 3) := by decide +kernel
theorem d_xWriter_writeNumeral_68 : decode prog_8_method_4_code 68 = .ok (.iload 11, 2) := by decide +kernel
theorem d_xWriter_writeNumeral_70 : decode prog_8_method_4_code 70 = .ok (.ifCond .eq 7, 3) := by decide +kernel
theorem d_xWriter_writeNumeral_73 : decode prog_8_method_4_code 73 = .ok (.iload_n 2, 1) := by decide +kernel
theorem d_xWriter_writeNumeral_74 : decode prog_8_method_4_code 74 = .ok (.ifCond .ne 9, 3) := by decide +kernel
theorem d_xWriter_writeNumeral_77 : decode prog_8_method_4_code 77 = .ok (.aload_n 3, 1) := by decide +kernel
theorem d_xWriter_writeNumeral_78 : decode prog_8_method_4_code 78 = .ok (.bipush 32, 2) := by decide +kernel
theorem d_xWriter_writeNumeral_80 : decode prog_8_method_4_code 80 = .ok (.invokevirtual 30, 3) := by decide +kernel
theorem d_xWriter_writeNumeral_83 : decode prog_8_method_4_code 83 = .ok (.iload_n 0, 1) := by decide +kernel
theorem d_xWriter_writeNumeral_84 : decode prog_8_method_4_code 84 = .ok (.ifCond .ge 9, 3) := by decide +kernel
theorem d_xWriter_writeNumeral_87 : decode prog_8_method_4_code 87 = .ok (.aload_n 3, 1) := by decide +kernel
theorem d_xWriter_writeNumeral_88 : decode prog_8_method_4_code 88 = .ok (.bipush 45, 2) := by decide +kernel
theorem d_xWriter_writeNumeral_90 : decode prog_8_method_4_code 90 = .ok (.invokevirtual 30, 3) := by decide +kernel
theorem d_xWriter_writeNumeral_93 : decode prog_8_method_4_code 93 = .ok (.iload 11, 2) := by decide +kernel
theorem d_xWriter_writeNumeral_95 : decode prog_8_method_4_code 95 = .ok (.ifCond .ne 9, 3) := by decide +kernel
theorem d_xWriter_writeNumeral_98 : decode prog_8_method_4_code 98 = .ok (.lload 9, 2) := by decide +kernel
theorem d_xWriter_writeNumeral_100 : decode prog_8_method_4_code 100 = .ok (.aload_n 3, 1) := by decide +kernel
theorem d_xWriter_writeNumeral_101 : decode prog_8_method_4_code 101 = .ok (.invokestatic 57, 3) := by decide +kernel
theorem d_xWriter_writeNumeral_104 : decode prog_8_method_4_code 104 = .ok (.iload 6, 2) := by decide +kernel
theorem d_xWriter_writeNumeral_106 : decode prog_8_method_4_code 106 = .ok (.ifCond .le 17, 3) := by decide +kernel
theorem d_xWriter_writeNumeral_109 : decode prog_8_method_4_code 109 = .ok (.aload_n 3, 1) := by decide +kernel
theorem d_xWriter_writeNumeral_110 : decode prog_8_method_4_code 110 = .ok (.bipush 46, 2) := by decide +kernel
theorem d_xWriter_writeNumeral_112 : decode prog_8_method_4_code 112 = .ok (.invokevirtual 30, 3) := by decide +kernel
theorem d_xWriter_writeNumeral_115 : decode prog_8_method_4_code 115 = .ok (.lload 7, 2) := by decide +kernel
theorem d_xWriter_writeNumeral_117 : decode prog_8_method_4_code 117 = .ok (.iload 6, 2) := by decide +kernel
theorem d_xWriter_writeNumeral_119 : decode prog_8_method_4_code 119 = .ok (.aload_n 3, 1) := by decide +kernel
theorem d_xWriter_writeNumeral_120 : decode prog_8_method_4_code 120 = .ok (.invokestatic 61, 3) := by decide +kernel
theorem d_xWriter_writeNumeral_123 : decode prog_8_method_4_code 123 = .ok (.iload 6, 2) := by decide +kernel
theorem d_xWriter_writeNumeral_125 : decode prog_8_method_4_code 125 = .ok (.ifCond .le 7, 3) := by decide +kernel
theorem d_xWriter_writeNumeral_128 : decode prog_8_method_4_code 128 = .ok (.iconst 1, 1) := by decide +kernel
theorem d_xWriter_writeNumeral_129 : decode prog_8_method_4_code 129 = .ok (.goto 4, 3) := by decide +kernel
theorem d_xWriter_writeNumeral_132 : decode prog_8_method_4_code 132 = .ok (.iconst 0, 1) := by decide +kernel
theorem d_xWriter_writeNumeral_133 : decode prog_8_method_4_code 133 = .ok (.ireturn, 1) := by decide +kernel
theorem d_xCover_addCubicI_0 : decode prog_2_method_4_code 0 = .ok (.iload_n 2, 1) := by decide +kernel
theorem d_xCover_addCubicI_1 : decode prog_2_method_4_code 1 = .ok (.ifCond .lt 12, 3) := by decide +kernel
theorem d_xCover_addCubicI_4 : decode prog_2_method_4_code 4 = .ok (.iload_n 2, 1) := by decide +kernel
theorem d_xCover_addCubicI_5 : decode prog_2_method_4_code 5 = .ok (.bipush 6, 2) := by decide +kernel
theorem d_xCover_addCubicI_7 : decode prog_2_method_4_code 7 = .ok (.iadd, 1) := by decide +kernel
theorem d_xCover_addCubicI_8 : decode prog_2_method_4_code 8 = .ok (.aload_n 1, 1) := by decide +kernel
theorem d_xCover_addCubicI_9 : decode prog_2_method_4_code 9 = .ok (.arraylength, 1) := by decide +kernel
theorem d_xCover_addCubicI_10 : decode prog_2_method_4_code 10 = .ok (.if_icmp .le 4, 3) := by decide +kernel
theorem d_xCover_addCubicI_13 : decode prog_2_method_4_code 13 = .ok (.return_, 1) := by decide +kernel
theorem d_xCover_addCubicI_14 : decode prog_2_method_4_code 14 = .ok (.aload_n 0, 1) := by decide +kernel
theorem d_xCover_addCubicI_15 : decode prog_2_method_4_code 15 = .ok (.getfield 66, 3) := by decide +kernel
theorem d_xCover_addCubicI_18 : decode prog_2_method_4_code 18 = .ok (.lstore_n 3, 1) := by decide +kernel
theorem d_xCover_addCubicI_19 : decode prog_2_method_4_code 19 = .ok (.aload_n 0, 1) := by decide +kernel
theorem d_xCover_addCubicI_20 : decode prog_2_method_4_code 20 = .ok (.getfield 69, 3) := by decide +kernel
theorem d_xCover_addCubicI_23 : decode prog_2_method_4_code 23 = .ok (.lstore 5, 2) := by decide +kernel
theorem d_xCover_addCubicI_25 : decode prog_2_method_4_code 25 = .ok (.iconst 1, 1) := by decide +kernel
theorem d_xCover_addCubicI_26 : decode prog_2_method_4_code 26 = .ok (.istore 7, 2) := by decide +kernel
theorem d_xCover_addCubicI_28 : decode prog_2_method_4_code 28 = .ok (.iload 7, 2) := by decide +kernel
theorem d_xCover_addCubicI_30 : decode prog_2_method_4_code 30 = .ok (.bipush 16, 2) := by decide +kernel
theorem d_xCover_addCubicI_32 : decode prog_2_method_4_code 32 = .ok (.if_icmp .gt 70, 3) := by decide +kernel
theorem d_xCover_addCubicI_35 : decode prog_2_method_4_code 35 = .ok (.lload_n 3, 1) := by decide +kernel
theorem d_xCover_addCubicI_36 : decode prog_2_method_4_code 36 = .ok (.aload_n 1, 1) := by decide +kernel
theorem d_xCover_addCubicI_37 : decode prog_2_method_4_code 37 = .ok (.iload_n 2, 1) := by decide +kernel
theorem d_xCover_addCubicI_38 : decode prog_2_method_4_code 38 = .ok (.iaload, 1) := by decide +kernel
theorem d_xCover_addCubicI_39 : decode prog_2_method_4_code 39 = .ok (.i2l, 1) := by decide +kernel
theorem d_xCover_addCubicI_40 : decode prog_2_method_4_code 40 = .ok (.aload_n 1, 1) := by decide +kernel
theorem d_xCover_addCubicI_41 : decode prog_2_method_4_code 41 = .ok (.iload_n 2, 1) := by decide +kernel
theorem d_xCover_addCubicI_42 : decode prog_2_method_4_code 42 = .ok (.iconst 2, 1) := by decide +kernel
theorem d_xCover_addCubicI_43 : decode prog_2_method_4_code 43 = .ok (.iadd, 1) := by decide +kernel
theorem d_xCover_addCubicI_44 : decode prog_2_method_4_code 44 = .ok (.iaload, 1) := by decide +kernel
theorem d_xCover_addCubicI_45 : decode prog_2_method_4_code 45 = .ok (.i2l, 1) := by decide +kernel
theorem d_xCover_addCubicI_46 : decode prog_2_method_4_code 46 = .ok (.aload_n 1, 1) := by decide +kernel
theorem d_xCover_addCubicI_47 : decode prog_2_method_4_code 47 = .ok (.iload_n 2, 1) := by decide +kernel
theorem d_xCover_addCubicI_48 : decode prog_2_method_4_code 48 = .ok (.iconst 4, 1) := by decide +kernel
theorem d_xCover_addCubicI_49 : decode prog_2_method_4_code 49 = .ok (.iadd, 1) := by decide +kernel
theorem d_xCover_addCubicI_50 : decode prog_2_method_4_code 50 = .ok (.iaload, 1) := by decide +kernel
theorem d_xCover_addCubicI_51 : decode prog_2_method_4_code 51 = .ok (.i2l, 1) := by decide +kernel
theorem d_xCover_addCubicI_52 : decode prog_2_method_4_code 52 = .ok (.iload 7, 2) := by decide +kernel
theorem d_xCover_addCubicI_54 : decode prog_2_method_4_code 54 = .ok (.i2l, 1) := by decide +kernel
theorem d_xCover_addCubicI_55 : decode prog_2_method_4_code 55 = .ok (.invokestatic 75, 3) := by decide +kernel
theorem d_xCover_addCubicI_58 : decode prog_2_method_4_code 58 = .ok (.lstore 8, 2) := by decide +kernel
theorem d_xCover_addCubicI_60 : decode prog_2_method_4_code 60 = .ok (.lload 5, 2) := by decide +kernel
theorem d_xCover_addCubicI_62 : decode prog_2_method_4_code 62 = .ok (.aload_n 1, 1) := by decide +kernel
theorem d_xCover_addCubicI_63 : decode prog_2_method_4_code 63 = .ok (.iload_n 2, 1) := by decide +kernel
theorem d_xCover_addCubicI_64 : decode prog_2_method_4_code 64 = .ok (.iconst 1, 1) := by decide +kernel
theorem d_xCover_addCubicI_65 : decode prog_2_method_4_code 65 = .ok (.iadd, 1) := by decide +kernel
theorem d_xCover_addCubicI_66 : decode prog_2_method_4_code 66 = .ok (.iaload, 1) := by decide +kernel
theorem d_xCover_addCubicI_67 : decode prog_2_method_4_code 67 = .ok (.i2l, 1) := by decide +kernel
theorem d_xCover_addCubicI_68 : decode prog_2_method_4_code 68 = .ok (.aload_n 1, 1) := by decide +kernel
theorem d_xCover_addCubicI_69 : decode prog_2_method_4_code 69 = .ok (.iload_n 2, 1) := by decide +kernel
theorem d_xCover_addCubicI_70 : decode prog_2_method_4_code 70 = .ok (.iconst 3, 1) := by decide +kernel
theorem d_xCover_addCubicI_71 : decode prog_2_method_4_code 71 = .ok (.iadd, 1) := by decide +kernel
theorem d_xCover_addCubicI_72 : decode prog_2_method_4_code 72 = .ok (.iaload, 1) := by decide +kernel
theorem d_xCover_addCubicI_73 : decode prog_2_method_4_code 73 = .ok (.i2l, 1) := by decide +kernel
theorem d_xCover_addCubicI_74 : decode prog_2_method_4_code 74 = .ok (.aload_n 1, 1) := by decide +kernel
theorem d_xCover_addCubicI_75 : decode prog_2_method_4_code 75 = .ok (.iload_n 2, 1) := by decide +kernel
theorem d_xCover_addCubicI_76 : decode prog_2_method_4_code 76 = .ok (.iconst 5, 1) := by decide +kernel
theorem d_xCover_addCubicI_77 : decode prog_2_method_4_code 77 = .ok (.iadd, 1) := by decide +kernel
theorem d_xCover_addCubicI_78 : decode prog_2_method_4_code 78 = .ok (.iaload, 1) := by decide +kernel
theorem d_xCover_addCubicI_79 : decode prog_2_method_4_code 79 = .ok (.i2l, 1) := by decide +kernel
theorem d_xCover_addCubicI_80 : decode prog_2_method_4_code 80 = .ok (.iload 7, 2) := by decide +kernel
theorem d_xCover_addCubicI_82 : decode prog_2_method_4_code 82 = .ok (.i2l, 1) := by decide +kernel
theorem d_xCover_addCubicI_83 : decode prog_2_method_4_code 83 = .ok (.invokestatic 75, 3) := by decide +kernel
theorem d_xCover_addCubicI_86 : decode prog_2_method_4_code 86 = .ok (.lstore 10, 2) := by decide +kernel
theorem d_xCover_addCubicI_88 : decode prog_2_method_4_code 88 = .ok (.aload_n 0, 1) := by decide +kernel
theorem d_xCover_addCubicI_89 : decode prog_2_method_4_code 89 = .ok (.lload 8, 2) := by decide +kernel
theorem d_xCover_addCubicI_91 : decode prog_2_method_4_code 91 = .ok (.lload 10, 2) := by decide +kernel
theorem d_xCover_addCubicI_93 : decode prog_2_method_4_code 93 = .ok (.invokevirtual 59, 3) := by decide +kernel
theorem d_xCover_addCubicI_96 : decode prog_2_method_4_code 96 = .ok (.iinc 7 1, 3) := by decide +kernel
theorem d_xCover_addCubicI_99 : decode prog_2_method_4_code 99 = .ok (.goto (-71), 3) := by decide +kernel
theorem d_xCover_addCubicI_102 : decode prog_2_method_4_code 102 = .ok (.return_, 1) := by decide +kernel
theorem d_xReader_placeOfWrong_0 : decode prog_6_method_2_code 0 = .ok (.aload_n 1, 1) := by decide +kernel
theorem d_xReader_placeOfWrong_1 : decode prog_6_method_2_code 1 = .ok (.iconst 0, 1) := by decide +kernel
theorem d_xReader_placeOfWrong_2 : decode prog_6_method_2_code 2 = .ok (.putfield 26, 3) := by decide +kernel
theorem d_xReader_placeOfWrong_5 : decode prog_6_method_2_code 5 = .ok (.aload_n 0, 1) := by decide +kernel
theorem d_xReader_placeOfWrong_6 : decode prog_6_method_2_code 6 = .ok (.getfield 12, 3) := by decide +kernel
theorem d_xReader_placeOfWrong_9 : decode prog_6_method_2_code 9 = .ok (.getfield 32, 3) := by decide +kernel
theorem d_xReader_placeOfWrong_12 : decode prog_6_method_2_code 12 = .ok (.invokevirtual 36, 3) := by decide +kernel
theorem d_xReader_placeOfWrong_15 : decode prog_6_method_2_code 15 = .ok (.aload_n 0, 1) := by decide +kernel
theorem d_xReader_placeOfWrong_16 : decode prog_6_method_2_code 16 = .ok (.getfield 12, 3) := by decide +kernel
theorem d_xReader_placeOfWrong_19 : decode prog_6_method_2_code 19 = .ok (.invokevirtual 41, 3) := by decide +kernel
theorem d_xReader_placeOfWrong_22 : decode prog_6_method_2_code 22 = .ok (.aload_n 0, 1) := by decide +kernel
theorem d_xReader_placeOfWrong_23 : decode prog_6_method_2_code 23 = .ok (.iconst 0, 1) := by decide +kernel
theorem d_xReader_placeOfWrong_24 : decode prog_6_method_2_code 24 = .ok (.putfield 44, 3) := by decide +kernel
theorem d_xReader_placeOfWrong_27 : decode prog_6_method_2_code 27 = .ok (.aload_n 0, 1) := by decide +kernel
theorem d_xReader_placeOfWrong_28 : decode prog_6_method_2_code 28 = .ok (.iconst 1, 1) := by decide +kernel
theorem d_xReader_placeOfWrong_29 : decode prog_6_method_2_code 29 = .ok (.putfield 47, 3) := by decide +kernel
theorem d_xReader_placeOfWrong_32 : decode prog_6_method_2_code 32 = .ok (.iconst 0, 1) := by decide +kernel
theorem d_xReader_placeOfWrong_33 : decode prog_6_method_2_code 33 = .ok (.istore_n 2, 1) := by decide +kernel
theorem d_xReader_placeOfWrong_34 : decode prog_6_method_2_code 34 = .ok (.iload_n 2, 1) := by decide +kernel
theorem d_xReader_placeOfWrong_35 : decode prog_6_method_2_code 35 = .ok (.sipush 1200, 3) := by decide +kernel
theorem d_xReader_placeOfWrong_38 : decode prog_6_method_2_code 38 = .ok (.if_icmp .gt 127, 3) := by decide +kernel
theorem d_xReader_placeOfWrong_41 : decode prog_6_method_2_code 41 = .ok (.aload_n 0, 1) := by decide +kernel
theorem d_xReader_placeOfWrong_42 : decode prog_6_method_2_code 42 = .ok (.invokevirtual 51, 3) := by decide +kernel
theorem d_xReader_placeOfWrong_45 : decode prog_6_method_2_code 45 = .ok (.aload_n 0, 1) := by decide +kernel
theorem d_xReader_placeOfWrong_46 : decode prog_6_method_2_code 46 = .ok (.getfield 44, 3) := by decide +kernel
theorem d_xReader_placeOfWrong_49 : decode prog_6_method_2_code 49 = .ok (.aload_n 0, 1) := by decide +kernel
theorem d_xReader_placeOfWrong_50 : decode prog_6_method_2_code 50 = .ok (.getfield 22, 3) := by decide +kernel
theorem d_xReader_placeOfWrong_53 : decode prog_6_method_2_code 53 = .ok (.getfield 54, 3) := by decide +kernel
theorem d_xReader_placeOfWrong_56 : decode prog_6_method_2_code 56 = .ok (.if_icmp .lt 28, 3) := by decide +kernel
theorem d_xReader_placeOfWrong_59 : decode prog_6_method_2_code 59 = .ok (.aload_n 0, 1) := by decide +kernel
theorem d_xReader_placeOfWrong_60 : decode prog_6_method_2_code 60 = .ok (.getfield 12, 3) := by decide +kernel
theorem d_xReader_placeOfWrong_63 : decode prog_6_method_2_code 63 = .ok (.getfield 32, 3) := by decide +kernel
theorem d_xReader_placeOfWrong_66 : decode prog_6_method_2_code 66 = .ok (.getfield 59, 3) := by decide +kernel
theorem d_xReader_placeOfWrong_69 : decode prog_6_method_2_code 69 = .ok (.ifCond .ne 7, 3) := by decide +kernel
theorem d_xReader_placeOfWrong_72 : decode prog_6_method_2_code 72 = .ok (.iconst (-1), 1) := by decide +kernel
theorem d_xReader_placeOfWrong_73 : decode prog_6_method_2_code 73 = .ok (.goto 10, 3) := by decide +kernel
theorem d_xReader_placeOfWrong_76 : decode prog_6_method_2_code 76 = .ok (.aload_n 0, 1) := by decide +kernel
theorem d_xReader_placeOfWrong_77 : decode prog_6_method_2_code 77 = .ok (.getfield 22, 3) := by decide +kernel
theorem d_xReader_placeOfWrong_80 : decode prog_6_method_2_code 80 = .ok (.getfield 54, 3) := by decide +kernel
theorem d_xReader_placeOfWrong_83 : decode prog_6_method_2_code 83 = .ok (.ireturn, 1) := by decide +kernel
theorem d_xReader_placeOfWrong_84 : decode prog_6_method_2_code 84 = .ok (.aload_n 0, 1) := by decide +kernel
theorem d_xReader_placeOfWrong_85 : decode prog_6_method_2_code 85 = .ok (.getfield 44, 3) := by decide +kernel
theorem d_xReader_placeOfWrong_88 : decode prog_6_method_2_code 88 = .ok (.istore_n 3, 1) := by decide +kernel
theorem d_xReader_placeOfWrong_89 : decode prog_6_method_2_code 89 = .ok (.aload_n 0, 1) := by decide +kernel
theorem d_xReader_placeOfWrong_90 : decode prog_6_method_2_code 90 = .ok (.getfield 22, 3) := by decide +kernel
theorem d_xReader_placeOfWrong_93 : decode prog_6_method_2_code 93 = .ok (.iload_n 3, 1) := by decide +kernel
theorem d_xReader_placeOfWrong_94 : decode prog_6_method_2_code 94 = .ok (.invokevirtual 62, 3) := by decide +kernel
theorem d_xReader_placeOfWrong_97 : decode prog_6_method_2_code 97 = .ok (.istore 4, 2) := by decide +kernel
theorem d_xReader_placeOfWrong_99 : decode prog_6_method_2_code 99 = .ok (.aload_n 0, 1) := by decide +kernel
theorem d_xReader_placeOfWrong_100 : decode prog_6_method_2_code 100 = .ok (.dup, 1) := by decide +kernel
theorem d_xReader_placeOfWrong_101 : decode prog_6_method_2_code 101 = .ok (.getfield 44, 3) := by decide +kernel
theorem d_xReader_placeOfWrong_104 : decode prog_6_method_2_code 104 = .ok (.iconst 1, 1) := by decide +kernel
theorem d_xReader_placeOfWrong_105 : decode prog_6_method_2_code 105 = .ok (.iadd, 1) := by decide +kernel
theorem d_xReader_placeOfWrong_106 : decode prog_6_method_2_code 106 = .ok (.putfield 44, 3) := by decide +kernel
theorem d_xReader_placeOfWrong_109 : decode prog_6_method_2_code 109 = .ok (.iload 4, 2) := by decide +kernel
theorem d_xReader_placeOfWrong_111 : decode prog_6_method_2_code 111 = .ok (.bipush 40, 2) := by decide +kernel
theorem d_xReader_placeOfWrong_113 : decode prog_6_method_2_code 113 = .ok (.if_icmp .ne 11, 3) := by decide +kernel
theorem d_xReader_placeOfWrong_116 : decode prog_6_method_2_code 116 = .ok (.aload_n 0, 1) := by decide +kernel
theorem d_xReader_placeOfWrong_117 : decode prog_6_method_2_code 117 = .ok (.iload_n 3, 1) := by decide +kernel
theorem d_xReader_placeOfWrong_118 : decode prog_6_method_2_code 118 = .ok (.invokevirtual 65, 3) := by decide +kernel
theorem d_xReader_placeOfWrong_121 : decode prog_6_method_2_code 121 = .ok (.goto 26, 3) := by decide +kernel
theorem d_xReader_placeOfWrong_124 : decode prog_6_method_2_code 124 = .ok (.iload 4, 2) := by decide +kernel
theorem d_xReader_placeOfWrong_126 : decode prog_6_method_2_code 126 = .ok (.bipush 41, 2) := by decide +kernel
theorem d_xReader_placeOfWrong_128 : decode prog_6_method_2_code 128 = .ok (.if_icmp .ne 11, 3) := by decide +kernel
theorem d_xReader_placeOfWrong_131 : decode prog_6_method_2_code 131 = .ok (.aload_n 0, 1) := by decide +kernel
theorem d_xReader_placeOfWrong_132 : decode prog_6_method_2_code 132 = .ok (.iload_n 3, 1) := by decide +kernel
theorem d_xReader_placeOfWrong_133 : decode prog_6_method_2_code 133 = .ok (.invokevirtual 69, 3) := by decide +kernel
theorem d_xReader_placeOfWrong_136 : decode prog_6_method_2_code 136 = .ok (.goto 11, 3) := by decide +kernel
theorem d_xReader_placeOfWrong_139 : decode prog_6_method_2_code 139 = .ok (.aload_n 0, 1) := by decide +kernel
theorem d_xReader_placeOfWrong_140 : decode prog_6_method_2_code 140 = .ok (.iload 4, 2) := by decide +kernel
theorem d_xReader_placeOfWrong_142 : decode prog_6_method_2_code 142 = .ok (.iload_n 3, 1) := by decide +kernel
theorem d_xReader_placeOfWrong_143 : decode prog_6_method_2_code 143 = .ok (.aload_n 1, 1) := by decide +kernel
theorem d_xReader_placeOfWrong_144 : decode prog_6_method_2_code 144 = .ok (.invokevirtual 72, 3) := by decide +kernel
theorem d_xReader_placeOfWrong_147 : decode prog_6_method_2_code 147 = .ok (.istore 5, 2) := by decide +kernel
theorem d_xReader_placeOfWrong_149 : decode prog_6_method_2_code 149 = .ok (.iload 5, 2) := by decide +kernel
theorem d_xReader_placeOfWrong_151 : decode prog_6_method_2_code 151 = .ok (.ifCond .ne 8, 3) := by decide +kernel
theorem d_xReader_placeOfWrong_154 : decode prog_6_method_2_code 154 = .ok (.aload_n 0, 1) := by decide +kernel
theorem d_xReader_placeOfWrong_155 : decode prog_6_method_2_code 155 = .ok (.getfield 76, 3) := by decide +kernel
theorem d_xReader_placeOfWrong_158 : decode prog_6_method_2_code 158 = .ok (.ireturn, 1) := by decide +kernel
theorem d_xReader_placeOfWrong_159 : decode prog_6_method_2_code 159 = .ok (.iinc 2 1, 3) := by decide +kernel
theorem d_xReader_placeOfWrong_162 : decode prog_6_method_2_code 162 = .ok (.goto (-128), 3) := by decide +kernel
theorem d_xReader_placeOfWrong_165 : decode prog_6_method_2_code 165 = .ok (.aload_n 0, 1) := by decide +kernel
theorem d_xReader_placeOfWrong_166 : decode prog_6_method_2_code 166 = .ok (.getfield 44, 3) := by decide +kernel
theorem d_xReader_placeOfWrong_169 : decode prog_6_method_2_code 169 = .ok (.ireturn, 1) := by decide +kernel
theorem d_xWriter_writeDrawing_0 : decode prog_8_method_2_code 0 = .ok (.aload_n 1, 1) := by decide +kernel
theorem d_xWriter_writeDrawing_1 : decode prog_8_method_2_code 1 = .ok (.iconst 0, 1) := by decide +kernel
theorem d_xWriter_writeDrawing_2 : decode prog_8_method_2_code 2 = .ok (.putfield 9, 3) := by decide +kernel
theorem d_xWriter_writeDrawing_5 : decode prog_8_method_2_code 5 = .ok (.iconst 0, 1) := by decide +kernel
theorem d_xWriter_writeDrawing_6 : decode prog_8_method_2_code 6 = .ok (.istore_n 2, 1) := by decide +kernel
theorem d_xWriter_writeDrawing_7 : decode prog_8_method_2_code 7 = .ok (.iload_n 2, 1) := by decide +kernel
theorem d_xWriter_writeDrawing_8 : decode prog_8_method_2_code 8 = .ok (.sipush 150, 3) := by decide +kernel
theorem d_xWriter_writeDrawing_11 : decode prog_8_method_2_code 11 = .ok (.if_icmp .ge 83, 3) := by decide +kernel
theorem d_xWriter_writeDrawing_14 : decode prog_8_method_2_code 14 = .ok (.iload_n 2, 1) := by decide +kernel
theorem d_xWriter_writeDrawing_15 : decode prog_8_method_2_code 15 = .ok (.aload_n 0, 1) := by decide +kernel
theorem d_xWriter_writeDrawing_16 : decode prog_8_method_2_code 16 = .ok (.getfield 15, 3) := by decide +kernel
theorem d_xWriter_writeDrawing_19 : decode prog_8_method_2_code 19 = .ok (.if_icmp .ge 75, 3) := by decide +kernel
theorem d_xWriter_writeDrawing_22 : decode prog_8_method_2_code 22 = .ok (.aload_n 1, 1) := by decide +kernel
theorem d_xWriter_writeDrawing_23 : decode prog_8_method_2_code 23 = .ok (.aload_n 0, 1) := by decide +kernel
theorem d_xWriter_writeDrawing_24 : decode prog_8_method_2_code 24 = .ok (.getfield 20, 3) := by decide +kernel
theorem d_xWriter_writeDrawing_27 : decode prog_8_method_2_code 27 = .ok (.iload_n 2, 1) := by decide +kernel
theorem d_xWriter_writeDrawing_28 : decode prog_8_method_2_code 28 = .ok (.iaload, 1) := by decide +kernel
theorem d_xWriter_writeDrawing_29 : decode prog_8_method_2_code 29 = .ok (.invokestatic 24, 3) := by decide +kernel
theorem d_xWriter_writeDrawing_32 : decode prog_8_method_2_code 32 = .ok (.invokevirtual 30, 3) := by decide +kernel
theorem d_xWriter_writeDrawing_35 : decode prog_8_method_2_code 35 = .ok (.iconst 0, 1) := by decide +kernel
theorem d_xWriter_writeDrawing_36 : decode prog_8_method_2_code 36 = .ok (.istore_n 3, 1) := by decide +kernel
theorem d_xWriter_writeDrawing_37 : decode prog_8_method_2_code 37 = .ok (.iconst 0, 1) := by decide +kernel
theorem d_xWriter_writeDrawing_38 : decode prog_8_method_2_code 38 = .ok (.istore 4, 2) := by decide +kernel
theorem d_xWriter_writeDrawing_40 : decode prog_8_method_2_code 40 = .ok (.iload 4, 2) := by decide +kernel
theorem d_xWriter_writeDrawing_42 : decode prog_8_method_2_code 42 = .ok (.aload_n 0, 1) := by decide +kernel
theorem d_xWriter_writeDrawing_43 : decode prog_8_method_2_code 43 = .ok (.getfield 20, 3) := by decide +kernel
theorem d_xWriter_writeDrawing_46 : decode prog_8_method_2_code 46 = .ok (.iload_n 2, 1) := by decide +kernel
theorem d_xWriter_writeDrawing_47 : decode prog_8_method_2_code 47 = .ok (.iaload, 1) := by decide +kernel
theorem d_xWriter_writeDrawing_48 : decode prog_8_method_2_code 48 = .ok (.invokestatic 34, 3) := by decide +kernel
theorem d_xWriter_writeDrawing_51 : decode prog_8_method_2_code 51 = .ok (.if_icmp .ge 37, 3) := by decide +kernel
theorem d_xWriter_writeDrawing_54 : decode prog_8_method_2_code 54 = .ok (.aload_n 0, 1) := by decide +kernel
theorem d_xWriter_writeDrawing_55 : decode prog_8_method_2_code 55 = .ok (.getfield 38, 3) := by decide +kernel
theorem d_xWriter_writeDrawing_58 : decode prog_8_method_2_code 58 = .ok (.iload_n 2, 1) := by decide +kernel
theorem d_xWriter_writeDrawing_59 : decode prog_8_method_2_code 59 = .ok (.bipush 6, 2) := by decide +kernel
theorem d_xWriter_writeDrawing_61 : decode prog_8_method_2_code 61 = .ok (.imul, 1) := by decide +kernel
theorem d_xWriter_writeDrawing_62 : decode prog_8_method_2_code 62 = .ok (.iload 4, 2) := by decide +kernel
theorem d_xWriter_writeDrawing_64 : decode prog_8_method_2_code 64 = .ok (.iadd, 1) := by decide +kernel
theorem d_xWriter_writeDrawing_65 : decode prog_8_method_2_code 65 = .ok (.iaload, 1) := by decide +kernel
theorem d_xWriter_writeDrawing_66 : decode prog_8_method_2_code 66 = .ok (.iload 4, 2) := by decide +kernel
theorem d_xWriter_writeDrawing_68 : decode prog_8_method_2_code 68 = .ok (.ifCond .ne 7, 3) := by decide +kernel
theorem d_xWriter_writeDrawing_71 : decode prog_8_method_2_code 71 = .ok (.iconst 1, 1) := by decide +kernel
theorem d_xWriter_writeDrawing_72 : decode prog_8_method_2_code 72 = .ok (.goto 4, 3) := by decide +kernel
theorem d_xWriter_writeDrawing_75 : decode prog_8_method_2_code 75 = .ok (.iconst 0, 1) := by decide +kernel
theorem d_xWriter_writeDrawing_76 : decode prog_8_method_2_code 76 = .ok (.iload_n 3, 1) := by decide +kernel
theorem d_xWriter_writeDrawing_77 : decode prog_8_method_2_code 77 = .ok (.aload_n 1, 1) := by decide +kernel
theorem d_xWriter_writeDrawing_78 : decode prog_8_method_2_code 78 = .ok (.invokestatic 41, 3) := by decide +kernel
theorem d_xWriter_writeDrawing_81 : decode prog_8_method_2_code 81 = .ok (.istore_n 3, 1) := by decide +kernel
theorem d_xWriter_writeDrawing_82 : decode prog_8_method_2_code 82 = .ok (.iinc 4 1, 3) := by decide +kernel
theorem d_xWriter_writeDrawing_85 : decode prog_8_method_2_code 85 = .ok (.goto (-45), 3) := by decide +kernel
theorem d_xWriter_writeDrawing_88 : decode prog_8_method_2_code 88 = .ok (.iinc 2 1, 3) := by decide +kernel
theorem d_xWriter_writeDrawing_91 : decode prog_8_method_2_code 91 = .ok (.goto (-84), 3) := by decide +kernel
theorem d_xWriter_writeDrawing_94 : decode prog_8_method_2_code 94 = .ok (.return_, 1) := by decide +kernel
theorem d_xCover_addDrawing_0 : decode prog_2_method_3_code 0 = .ok (.iconst 0, 1) := by decide +kernel
theorem d_xCover_addDrawing_1 : decode prog_2_method_3_code 1 = .ok (.istore_n 2, 1) := by decide +kernel
theorem d_xCover_addDrawing_2 : decode prog_2_method_3_code 2 = .ok (.iload_n 2, 1) := by decide +kernel
theorem d_xCover_addDrawing_3 : decode prog_2_method_3_code 3 = .ok (.sipush 150, 3) := by decide +kernel
theorem d_xCover_addDrawing_6 : decode prog_2_method_3_code 6 = .ok (.if_icmp .ge 158, 3) := by decide +kernel
theorem d_xCover_addDrawing_9 : decode prog_2_method_3_code 9 = .ok (.iload_n 2, 1) := by decide +kernel
theorem d_xCover_addDrawing_10 : decode prog_2_method_3_code 10 = .ok (.aload_n 1, 1) := by decide +kernel
theorem d_xCover_addDrawing_11 : decode prog_2_method_3_code 11 = .ok (.getfield 45, 3) := by decide +kernel
theorem d_xCover_addDrawing_14 : decode prog_2_method_3_code 14 = .ok (.if_icmp .ge 150, 3) := by decide +kernel
theorem d_xCover_addDrawing_17 : decode prog_2_method_3_code 17 = .ok (.iload_n 2, 1) := by decide +kernel
theorem d_xCover_addDrawing_18 : decode prog_2_method_3_code 18 = .ok (.bipush 6, 2) := by decide +kernel
theorem d_xCover_addDrawing_20 : decode prog_2_method_3_code 20 = .ok (.imul, 1) := by decide +kernel
theorem d_xCover_addDrawing_21 : decode prog_2_method_3_code 21 = .ok (.istore_n 3, 1) := by decide +kernel
theorem d_xCover_addDrawing_22 : decode prog_2_method_3_code 22 = .ok (.aload_n 1, 1) := by decide +kernel
theorem d_xCover_addDrawing_23 : decode prog_2_method_3_code 23 = .ok (.getfield 50, 3) := by decide +kernel
theorem d_xCover_addDrawing_26 : decode prog_2_method_3_code 26 = .ok (.iload_n 2, 1) := by decide +kernel
theorem d_xCover_addDrawing_27 : decode prog_2_method_3_code 27 = .ok (.iaload, 1) := by decide +kernel
theorem d_xCover_addDrawing_28 : decode prog_2_method_3_code 28 = .ok (.tableswitch 118 0 2 #[28, 83, 106], 28) := by decide +kernel
theorem d_xCover_addDrawing_56 : decode prog_2_method_3_code 56 = .ok (.aload_n 0, 1) := by decide +kernel
theorem d_xCover_addDrawing_57 : decode prog_2_method_3_code 57 = .ok (.aload_n 0, 1) := by decide +kernel
theorem d_xCover_addDrawing_58 : decode prog_2_method_3_code 58 = .ok (.getfield 53, 3) := by decide +kernel
theorem d_xCover_addDrawing_61 : decode prog_2_method_3_code 61 = .ok (.aload_n 0, 1) := by decide +kernel
theorem d_xCover_addDrawing_62 : decode prog_2_method_3_code 62 = .ok (.getfield 56, 3) := by decide +kernel
theorem d_xCover_addDrawing_65 : decode prog_2_method_3_code 65 = .ok (.invokevirtual 59, 3) := by decide +kernel
theorem d_xCover_addDrawing_68 : decode prog_2_method_3_code 68 = .ok (.aload_n 0, 1) := by decide +kernel
theorem d_xCover_addDrawing_69 : decode prog_2_method_3_code 69 = .ok (.aload_n 1, 1) := by decide +kernel
theorem d_xCover_addDrawing_70 : decode prog_2_method_3_code 70 = .ok (.getfield 63, 3) := by decide +kernel
theorem d_xCover_addDrawing_73 : decode prog_2_method_3_code 73 = .ok (.iload_n 3, 1) := by decide +kernel
theorem d_xCover_addDrawing_74 : decode prog_2_method_3_code 74 = .ok (.iaload, 1) := by decide +kernel
theorem d_xCover_addDrawing_75 : decode prog_2_method_3_code 75 = .ok (.i2l, 1) := by decide +kernel
theorem d_xCover_addDrawing_76 : decode prog_2_method_3_code 76 = .ok (.putfield 53, 3) := by decide +kernel
theorem d_xCover_addDrawing_79 : decode prog_2_method_3_code 79 = .ok (.aload_n 0, 1) := by decide +kernel
theorem d_xCover_addDrawing_80 : decode prog_2_method_3_code 80 = .ok (.aload_n 1, 1) := by decide +kernel
theorem d_xCover_addDrawing_81 : decode prog_2_method_3_code 81 = .ok (.getfield 63, 3) := by decide +kernel
theorem d_xCover_addDrawing_84 : decode prog_2_method_3_code 84 = .ok (.iload_n 3, 1) := by decide +kernel
theorem d_xCover_addDrawing_85 : decode prog_2_method_3_code 85 = .ok (.iconst 1, 1) := by decide +kernel
theorem d_xCover_addDrawing_86 : decode prog_2_method_3_code 86 = .ok (.iadd, 1) := by decide +kernel
theorem d_xCover_addDrawing_87 : decode prog_2_method_3_code 87 = .ok (.iaload, 1) := by decide +kernel
theorem d_xCover_addDrawing_88 : decode prog_2_method_3_code 88 = .ok (.i2l, 1) := by decide +kernel
theorem d_xCover_addDrawing_89 : decode prog_2_method_3_code 89 = .ok (.putfield 56, 3) := by decide +kernel
theorem d_xCover_addDrawing_92 : decode prog_2_method_3_code 92 = .ok (.aload_n 0, 1) := by decide +kernel
theorem d_xCover_addDrawing_93 : decode prog_2_method_3_code 93 = .ok (.aload_n 0, 1) := by decide +kernel
theorem d_xCover_addDrawing_94 : decode prog_2_method_3_code 94 = .ok (.getfield 53, 3) := by decide +kernel
theorem d_xCover_addDrawing_97 : decode prog_2_method_3_code 97 = .ok (.putfield 66, 3) := by decide +kernel
theorem d_xCover_addDrawing_100 : decode prog_2_method_3_code 100 = .ok (.aload_n 0, 1) := by decide +kernel
theorem d_xCover_addDrawing_101 : decode prog_2_method_3_code 101 = .ok (.aload_n 0, 1) := by decide +kernel
theorem d_xCover_addDrawing_102 : decode prog_2_method_3_code 102 = .ok (.getfield 56, 3) := by decide +kernel
theorem d_xCover_addDrawing_105 : decode prog_2_method_3_code 105 = .ok (.putfield 69, 3) := by decide +kernel
theorem d_xCover_addDrawing_108 : decode prog_2_method_3_code 108 = .ok (.goto 50, 3) := by decide +kernel
theorem d_xCover_addDrawing_111 : decode prog_2_method_3_code 111 = .ok (.aload_n 0, 1) := by decide +kernel
theorem d_xCover_addDrawing_112 : decode prog_2_method_3_code 112 = .ok (.aload_n 1, 1) := by decide +kernel
theorem d_xCover_addDrawing_113 : decode prog_2_method_3_code 113 = .ok (.getfield 63, 3) := by decide +kernel
theorem d_xCover_addDrawing_116 : decode prog_2_method_3_code 116 = .ok (.iload_n 3, 1) := by decide +kernel
theorem d_xCover_addDrawing_117 : decode prog_2_method_3_code 117 = .ok (.iaload, 1) := by decide +kernel
theorem d_xCover_addDrawing_118 : decode prog_2_method_3_code 118 = .ok (.i2l, 1) := by decide +kernel
theorem d_xCover_addDrawing_119 : decode prog_2_method_3_code 119 = .ok (.aload_n 1, 1) := by decide +kernel
theorem d_xCover_addDrawing_120 : decode prog_2_method_3_code 120 = .ok (.getfield 63, 3) := by decide +kernel
theorem d_xCover_addDrawing_123 : decode prog_2_method_3_code 123 = .ok (.iload_n 3, 1) := by decide +kernel
theorem d_xCover_addDrawing_124 : decode prog_2_method_3_code 124 = .ok (.iconst 1, 1) := by decide +kernel
theorem d_xCover_addDrawing_125 : decode prog_2_method_3_code 125 = .ok (.iadd, 1) := by decide +kernel
theorem d_xCover_addDrawing_126 : decode prog_2_method_3_code 126 = .ok (.iaload, 1) := by decide +kernel
theorem d_xCover_addDrawing_127 : decode prog_2_method_3_code 127 = .ok (.i2l, 1) := by decide +kernel
theorem d_xCover_addDrawing_128 : decode prog_2_method_3_code 128 = .ok (.invokevirtual 59, 3) := by decide +kernel
theorem d_xCover_addDrawing_131 : decode prog_2_method_3_code 131 = .ok (.goto 27, 3) := by decide +kernel
theorem d_xCover_addDrawing_134 : decode prog_2_method_3_code 134 = .ok (.aload_n 0, 1) := by decide +kernel
theorem d_xCover_addDrawing_135 : decode prog_2_method_3_code 135 = .ok (.aload_n 1, 1) := by decide +kernel
theorem d_xCover_addDrawing_136 : decode prog_2_method_3_code 136 = .ok (.getfield 63, 3) := by decide +kernel
theorem d_xCover_addDrawing_139 : decode prog_2_method_3_code 139 = .ok (.iload_n 3, 1) := by decide +kernel
theorem d_xCover_addDrawing_140 : decode prog_2_method_3_code 140 = .ok (.invokevirtual 72, 3) := by decide +kernel
theorem d_xCover_addDrawing_143 : decode prog_2_method_3_code 143 = .ok (.goto 15, 3) := by decide +kernel
theorem d_xCover_addDrawing_146 : decode prog_2_method_3_code 146 = .ok (.aload_n 0, 1) := by decide +kernel
theorem d_xCover_addDrawing_147 : decode prog_2_method_3_code 147 = .ok (.aload_n 0, 1) := by decide +kernel
theorem d_xCover_addDrawing_148 : decode prog_2_method_3_code 148 = .ok (.getfield 53, 3) := by decide +kernel
theorem d_xCover_addDrawing_151 : decode prog_2_method_3_code 151 = .ok (.aload_n 0, 1) := by decide +kernel
theorem d_xCover_addDrawing_152 : decode prog_2_method_3_code 152 = .ok (.getfield 56, 3) := by decide +kernel
theorem d_xCover_addDrawing_155 : decode prog_2_method_3_code 155 = .ok (.invokevirtual 59, 3) := by decide +kernel
theorem d_xCover_addDrawing_158 : decode prog_2_method_3_code 158 = .ok (.iinc 2 1, 3) := by decide +kernel
theorem d_xCover_addDrawing_161 : decode prog_2_method_3_code 161 = .ok (.goto (-159), 3) := by decide +kernel
theorem d_xCover_addDrawing_164 : decode prog_2_method_3_code 164 = .ok (.aload_n 0, 1) := by decide +kernel
theorem d_xCover_addDrawing_165 : decode prog_2_method_3_code 165 = .ok (.aload_n 0, 1) := by decide +kernel
theorem d_xCover_addDrawing_166 : decode prog_2_method_3_code 166 = .ok (.getfield 53, 3) := by decide +kernel
theorem d_xCover_addDrawing_169 : decode prog_2_method_3_code 169 = .ok (.aload_n 0, 1) := by decide +kernel
theorem d_xCover_addDrawing_170 : decode prog_2_method_3_code 170 = .ok (.getfield 56, 3) := by decide +kernel
theorem d_xCover_addDrawing_173 : decode prog_2_method_3_code 173 = .ok (.invokevirtual 59, 3) := by decide +kernel
theorem d_xCover_addDrawing_176 : decode prog_2_method_3_code 176 = .ok (.return_, 1) := by decide +kernel
theorem d_xP_read_0 : decode prog_1_method_3_code 0 = .ok (.aload_n 0, 1) := by decide +kernel
theorem d_xP_read_1 : decode prog_1_method_3_code 1 = .ok (.getfield 26, 3) := by decide +kernel
theorem d_xP_read_4 : decode prog_1_method_3_code 4 = .ok (.aload_n 0, 1) := by decide +kernel
theorem d_xP_read_5 : decode prog_1_method_3_code 5 = .ok (.getfield 48, 3) := by decide +kernel
theorem d_xP_read_8 : decode prog_1_method_3_code 8 = .ok (.invokevirtual 74, 3) := by decide +kernel
theorem d_xP_read_11 : decode prog_1_method_3_code 11 = .ok (.istore_n 1, 1) := by decide +kernel
theorem d_xP_read_12 : decode prog_1_method_3_code 12 = .ok (.aload_n 0, 1) := by decide +kernel
theorem d_xP_read_13 : decode prog_1_method_3_code 13 = .ok (.getfield 14, 3) := by decide +kernel
theorem d_xP_read_16 : decode prog_1_method_3_code 16 = .ok (.iconst 0, 1) := by decide +kernel
theorem d_xP_read_17 : decode prog_1_method_3_code 17 = .ok (.putfield 62, 3) := by decide +kernel
theorem d_xP_read_20 : decode prog_1_method_3_code 20 = .ok (.iload_n 1, 1) := by decide +kernel
theorem d_xP_read_21 : decode prog_1_method_3_code 21 = .ok (.iconst (-1), 1) := by decide +kernel
theorem d_xP_read_22 : decode prog_1_method_3_code 22 = .ok (.if_icmp .eq 7, 3) := by decide +kernel
theorem d_xP_read_25 : decode prog_1_method_3_code 25 = .ok (.iconst (-1), 1) := by decide +kernel
theorem d_xP_read_26 : decode prog_1_method_3_code 26 = .ok (.iload_n 1, 1) := by decide +kernel
theorem d_xP_read_27 : decode prog_1_method_3_code 27 = .ok (.isub, 1) := by decide +kernel
theorem d_xP_read_28 : decode prog_1_method_3_code 28 = .ok (.ireturn, 1) := by decide +kernel
theorem d_xP_read_29 : decode prog_1_method_3_code 29 = .ok (.aload_n 0, 1) := by decide +kernel
theorem d_xP_read_30 : decode prog_1_method_3_code 30 = .ok (.getfield 44, 3) := by decide +kernel
theorem d_xP_read_33 : decode prog_1_method_3_code 33 = .ok (.astore_n 2, 1) := by decide +kernel
theorem d_xP_read_34 : decode prog_1_method_3_code 34 = .ok (.aload_n 0, 1) := by decide +kernel
theorem d_xP_read_35 : decode prog_1_method_3_code 35 = .ok (.aload_n 0, 1) := by decide +kernel
theorem d_xP_read_36 : decode prog_1_method_3_code 36 = .ok (.getfield 48, 3) := by decide +kernel
theorem d_xP_read_39 : decode prog_1_method_3_code 39 = .ok (.putfield 44, 3) := by decide +kernel
theorem d_xP_read_42 : decode prog_1_method_3_code 42 = .ok (.aload_n 0, 1) := by decide +kernel
theorem d_xP_read_43 : decode prog_1_method_3_code 43 = .ok (.aload_n 2, 1) := by decide +kernel
theorem d_xP_read_44 : decode prog_1_method_3_code 44 = .ok (.putfield 48, 3) := by decide +kernel
theorem d_xP_read_47 : decode prog_1_method_3_code 47 = .ok (.aload_n 0, 1) := by decide +kernel
theorem d_xP_read_48 : decode prog_1_method_3_code 48 = .ok (.getfield 44, 3) := by decide +kernel
theorem d_xP_read_51 : decode prog_1_method_3_code 51 = .ok (.getfield 78, 3) := by decide +kernel
theorem d_xP_read_54 : decode prog_1_method_3_code 54 = .ok (.ireturn, 1) := by decide +kernel
theorem d_xP_write_0 : decode prog_1_method_10_code 0 = .ok (.aload_n 0, 1) := by decide +kernel
theorem d_xP_write_1 : decode prog_1_method_10_code 1 = .ok (.getfield 44, 3) := by decide +kernel
theorem d_xP_write_4 : decode prog_1_method_10_code 4 = .ok (.aload_n 0, 1) := by decide +kernel
theorem d_xP_write_5 : decode prog_1_method_10_code 5 = .ok (.getfield 18, 3) := by decide +kernel
theorem d_xP_write_8 : decode prog_1_method_10_code 8 = .ok (.invokestatic 106, 3) := by decide +kernel
theorem d_xP_write_11 : decode prog_1_method_10_code 11 = .ok (.aload_n 0, 1) := by decide +kernel
theorem d_xP_write_12 : decode prog_1_method_10_code 12 = .ok (.getfield 18, 3) := by decide +kernel
theorem d_xP_write_15 : decode prog_1_method_10_code 15 = .ok (.getfield 62, 3) := by decide +kernel
theorem d_xP_write_18 : decode prog_1_method_10_code 18 = .ok (.ireturn, 1) := by decide +kernel
theorem d_xCover_coverSquares_0 : decode prog_2_method_2_code 0 = .ok (.aload_n 0, 1) := by decide +kernel
theorem d_xCover_coverSquares_1 : decode prog_2_method_2_code 1 = .ok (.iload_n 2, 1) := by decide +kernel
theorem d_xCover_coverSquares_2 : decode prog_2_method_2_code 2 = .ok (.putfield 18, 3) := by decide +kernel
theorem d_xCover_coverSquares_5 : decode prog_2_method_2_code 5 = .ok (.aload_n 0, 1) := by decide +kernel
theorem d_xCover_coverSquares_6 : decode prog_2_method_2_code 6 = .ok (.iload_n 3, 1) := by decide +kernel
theorem d_xCover_coverSquares_7 : decode prog_2_method_2_code 7 = .ok (.putfield 22, 3) := by decide +kernel
theorem d_xCover_coverSquares_10 : decode prog_2_method_2_code 10 = .ok (.aload_n 0, 1) := by decide +kernel
theorem d_xCover_coverSquares_11 : decode prog_2_method_2_code 11 = .ok (.getfield 9, 3) := by decide +kernel
theorem d_xCover_coverSquares_14 : decode prog_2_method_2_code 14 = .ok (.iconst 0, 1) := by decide +kernel
theorem d_xCover_coverSquares_15 : decode prog_2_method_2_code 15 = .ok (.invokestatic 25, 3) := by decide +kernel
theorem d_xCover_coverSquares_18 : decode prog_2_method_2_code 18 = .ok (.iconst 0, 1) := by decide +kernel
theorem d_xCover_coverSquares_19 : decode prog_2_method_2_code 19 = .ok (.istore 5, 2) := by decide +kernel
theorem d_xCover_coverSquares_21 : decode prog_2_method_2_code 21 = .ok (.iconst 0, 1) := by decide +kernel
theorem d_xCover_coverSquares_22 : decode prog_2_method_2_code 22 = .ok (.istore 6, 2) := by decide +kernel
theorem d_xCover_coverSquares_24 : decode prog_2_method_2_code 24 = .ok (.iload 6, 2) := by decide +kernel
theorem d_xCover_coverSquares_26 : decode prog_2_method_2_code 26 = .ok (.aload_n 0, 1) := by decide +kernel
theorem d_xCover_coverSquares_27 : decode prog_2_method_2_code 27 = .ok (.getfield 22, 3) := by decide +kernel
theorem d_xCover_coverSquares_30 : decode prog_2_method_2_code 30 = .ok (.if_icmp .ge 53, 3) := by decide +kernel
theorem d_xCover_coverSquares_33 : decode prog_2_method_2_code 33 = .ok (.iload 6, 2) := by decide +kernel
theorem d_xCover_coverSquares_35 : decode prog_2_method_2_code 35 = .ok (.bipush 8, 2) := by decide +kernel
theorem d_xCover_coverSquares_37 : decode prog_2_method_2_code 37 = .ok (.if_icmp .ge 46, 3) := by decide +kernel
theorem d_xCover_coverSquares_40 : decode prog_2_method_2_code 40 = .ok (.aload_n 0, 1) := by decide +kernel
theorem d_xCover_coverSquares_41 : decode prog_2_method_2_code 41 = .ok (.getfield 15, 3) := by decide +kernel
theorem d_xCover_coverSquares_44 : decode prog_2_method_2_code 44 = .ok (.iconst 0, 1) := by decide +kernel
theorem d_xCover_coverSquares_45 : decode prog_2_method_2_code 45 = .ok (.invokestatic 25, 3) := by decide +kernel
theorem d_xCover_coverSquares_48 : decode prog_2_method_2_code 48 = .ok (.aload_n 0, 1) := by decide +kernel
theorem d_xCover_coverSquares_49 : decode prog_2_method_2_code 49 = .ok (.iload 6, 2) := by decide +kernel
theorem d_xCover_coverSquares_51 : decode prog_2_method_2_code 51 = .ok (.i2l, 1) := by decide +kernel
theorem d_xCover_coverSquares_52 : decode prog_2_method_2_code 52 = .ok (.ldc2_w 31, 3) := by decide +kernel
theorem d_xCover_coverSquares_55 : decode prog_2_method_2_code 55 = .ok (.lmul, 1) := by decide +kernel
theorem d_xCover_coverSquares_56 : decode prog_2_method_2_code 56 = .ok (.putfield 33, 3) := by decide +kernel
theorem d_xCover_coverSquares_59 : decode prog_2_method_2_code 59 = .ok (.aload_n 0, 1) := by decide +kernel
theorem d_xCover_coverSquares_60 : decode prog_2_method_2_code 60 = .ok (.aload_n 1, 1) := by decide +kernel
theorem d_xCover_coverSquares_61 : decode prog_2_method_2_code 61 = .ok (.invokevirtual 37, 3) := by decide +kernel
theorem d_xCover_coverSquares_64 : decode prog_2_method_2_code 64 = .ok (.iload 5, 2) := by decide +kernel
theorem d_xCover_coverSquares_66 : decode prog_2_method_2_code 66 = .ok (.aload_n 0, 1) := by decide +kernel
theorem d_xCover_coverSquares_67 : decode prog_2_method_2_code 67 = .ok (.iload 6, 2) := by decide +kernel
theorem d_xCover_coverSquares_69 : decode prog_2_method_2_code 69 = .ok (.iload 4, 2) := by decide +kernel
theorem d_xCover_coverSquares_71 : decode prog_2_method_2_code 71 = .ok (.invokevirtual 41, 3) := by decide +kernel
theorem d_xCover_coverSquares_74 : decode prog_2_method_2_code 74 = .ok (.iadd, 1) := by decide +kernel
theorem d_xCover_coverSquares_75 : decode prog_2_method_2_code 75 = .ok (.istore 5, 2) := by decide +kernel
theorem d_xCover_coverSquares_77 : decode prog_2_method_2_code 77 = .ok (.iinc 6 1, 3) := by decide +kernel
theorem d_xCover_coverSquares_80 : decode prog_2_method_2_code 80 = .ok (.goto (-56), 3) := by decide +kernel
theorem d_xCover_coverSquares_83 : decode prog_2_method_2_code 83 = .ok (.iload 5, 2) := by decide +kernel
theorem d_xCover_coverSquares_85 : decode prog_2_method_2_code 85 = .ok (.ireturn, 1) := by decide +kernel
theorem d_xP_render_0 : decode prog_1_method_12_code 0 = .ok (.iload_n 1, 1) := by decide +kernel
theorem d_xP_render_1 : decode prog_1_method_12_code 1 = .ok (.iconst 1, 1) := by decide +kernel
theorem d_xP_render_2 : decode prog_1_method_12_code 2 = .ok (.if_icmp .lt 20, 3) := by decide +kernel
theorem d_xP_render_5 : decode prog_1_method_12_code 5 = .ok (.iload_n 1, 1) := by decide +kernel
theorem d_xP_render_6 : decode prog_1_method_12_code 6 = .ok (.bipush 8, 2) := by decide +kernel
theorem d_xP_render_8 : decode prog_1_method_12_code 8 = .ok (.if_icmp .gt 14, 3) := by decide +kernel
theorem d_xP_render_11 : decode prog_1_method_12_code 11 = .ok (.iload_n 2, 1) := by decide +kernel
theorem d_xP_render_12 : decode prog_1_method_12_code 12 = .ok (.iconst 1, 1) := by decide +kernel
theorem d_xP_render_13 : decode prog_1_method_12_code 13 = .ok (.if_icmp .lt 9, 3) := by decide +kernel
theorem d_xP_render_16 : decode prog_1_method_12_code 16 = .ok (.iload_n 2, 1) := by decide +kernel
theorem d_xP_render_17 : decode prog_1_method_12_code 17 = .ok (.bipush 8, 2) := by decide +kernel
theorem d_xP_render_19 : decode prog_1_method_12_code 19 = .ok (.if_icmp .le 13, 3) := by decide +kernel
theorem d_xP_render_22 : decode prog_1_method_12_code 22 = .ok (.new 55, 3) := by decide +kernel
theorem d_xP_render_25 : decode prog_1_method_12_code 25 = .ok (.dup, 1) := by decide +kernel
theorem d_xP_render_26 : decode prog_1_method_12_code 26 = .ok (.ldc 118, 2) := by decide +kernel
theorem d_xP_render_28 : decode prog_1_method_12_code 28 = .ok (.invokespecial 59, 3) := by decide +kernel
theorem d_xP_render_31 : decode prog_1_method_12_code 31 = .ok (.athrow, 1) := by decide +kernel
theorem d_xP_render_32 : decode prog_1_method_12_code 32 = .ok (.iload_n 3, 1) := by decide +kernel
theorem d_xP_render_33 : decode prog_1_method_12_code 33 = .ok (.ifCond .eq 18, 3) := by decide +kernel
theorem d_xP_render_36 : decode prog_1_method_12_code 36 = .ok (.iload_n 3, 1) := by decide +kernel
theorem d_xP_render_37 : decode prog_1_method_12_code 37 = .ok (.iconst 1, 1) := by decide +kernel
theorem d_xP_render_38 : decode prog_1_method_12_code 38 = .ok (.if_icmp .eq 13, 3) := by decide +kernel
theorem d_xP_render_41 : decode prog_1_method_12_code 41 = .ok (.new 55, 3) := by decide +kernel
theorem d_xP_render_44 : decode prog_1_method_12_code 44 = .ok (.dup, 1) := by decide +kernel
theorem d_xP_render_45 : decode prog_1_method_12_code 45 = .ok (.ldc 120, 2) := by decide +kernel
theorem d_xP_render_47 : decode prog_1_method_12_code 47 = .ok (.invokespecial 59, 3) := by decide +kernel
theorem d_xP_render_50 : decode prog_1_method_12_code 50 = .ok (.athrow, 1) := by decide +kernel
theorem d_xP_render_51 : decode prog_1_method_12_code 51 = .ok (.aload_n 0, 1) := by decide +kernel
theorem d_xP_render_52 : decode prog_1_method_12_code 52 = .ok (.getfield 33, 3) := by decide +kernel
theorem d_xP_render_55 : decode prog_1_method_12_code 55 = .ok (.aload_n 0, 1) := by decide +kernel
theorem d_xP_render_56 : decode prog_1_method_12_code 56 = .ok (.getfield 44, 3) := by decide +kernel
theorem d_xP_render_59 : decode prog_1_method_12_code 59 = .ok (.iload_n 1, 1) := by decide +kernel
theorem d_xP_render_60 : decode prog_1_method_12_code 60 = .ok (.iload_n 2, 1) := by decide +kernel
theorem d_xP_render_61 : decode prog_1_method_12_code 61 = .ok (.iload_n 3, 1) := by decide +kernel
theorem d_xP_render_62 : decode prog_1_method_12_code 62 = .ok (.invokevirtual 122, 3) := by decide +kernel
theorem d_xP_render_65 : decode prog_1_method_12_code 65 = .ok (.ireturn, 1) := by decide +kernel
