theorem d_m_thrown_0 : decode prog_10_method_2_code 0 = .ok (.aload_n 0, 1) := by decide +kernel
theorem d_m_thrown_1 : decode prog_10_method_2_code 1 = .ok (.getfield 50, 3) := by decide +kernel
theorem d_m_thrown_4 : decode prog_10_method_2_code 4 = .ok (.ireturn, 1) := by decide +kernel
theorem d_m_in_0 : decode prog_10_method_3_code 0 = .ok (.lload_n 0, 1) := by decide +kernel
theorem d_m_in_1 : decode prog_10_method_3_code 1 = .ok (.lload_n 2, 1) := by decide +kernel
theorem d_m_in_2 : decode prog_10_method_3_code 2 = .ok (.lcmp, 1) := by decide +kernel
theorem d_m_in_3 : decode prog_10_method_3_code 3 = .ok (.ifCond .lt 14, 3) := by decide +kernel
theorem d_m_in_6 : decode prog_10_method_3_code 6 = .ok (.lload_n 0, 1) := by decide +kernel
theorem d_m_in_7 : decode prog_10_method_3_code 7 = .ok (.lload 4, 2) := by decide +kernel
theorem d_m_in_9 : decode prog_10_method_3_code 9 = .ok (.lcmp, 1) := by decide +kernel
theorem d_m_in_10 : decode prog_10_method_3_code 10 = .ok (.ifCond .gt 7, 3) := by decide +kernel
theorem d_m_in_13 : decode prog_10_method_3_code 13 = .ok (.iconst 1, 1) := by decide +kernel
theorem d_m_in_14 : decode prog_10_method_3_code 14 = .ok (.goto 4, 3) := by decide +kernel
theorem d_m_in_17 : decode prog_10_method_3_code 17 = .ok (.iconst 0, 1) := by decide +kernel
theorem d_m_in_18 : decode prog_10_method_3_code 18 = .ok (.ireturn, 1) := by decide +kernel
theorem d_m_nearest_0 : decode prog_10_method_4_code 0 = .ok (.ldc2_w 54, 3) := by decide +kernel
theorem d_m_nearest_3 : decode prog_10_method_4_code 3 = .ok (.lload_n 0, 1) := by decide +kernel
theorem d_m_nearest_4 : decode prog_10_method_4_code 4 = .ok (.lmul, 1) := by decide +kernel
theorem d_m_nearest_5 : decode prog_10_method_4_code 5 = .ok (.lload_n 2, 1) := by decide +kernel
theorem d_m_nearest_6 : decode prog_10_method_4_code 6 = .ok (.ladd, 1) := by decide +kernel
theorem d_m_nearest_7 : decode prog_10_method_4_code 7 = .ok (.lstore 4, 2) := by decide +kernel
theorem d_m_nearest_9 : decode prog_10_method_4_code 9 = .ok (.lload 4, 2) := by decide +kernel
theorem d_m_nearest_11 : decode prog_10_method_4_code 11 = .ok (.ldc2_w 54, 3) := by decide +kernel
theorem d_m_nearest_14 : decode prog_10_method_4_code 14 = .ok (.lload_n 2, 1) := by decide +kernel
theorem d_m_nearest_15 : decode prog_10_method_4_code 15 = .ok (.lmul, 1) := by decide +kernel
theorem d_m_nearest_16 : decode prog_10_method_4_code 16 = .ok (.ldiv, 1) := by decide +kernel
theorem d_m_nearest_17 : decode prog_10_method_4_code 17 = .ok (.lstore 6, 2) := by decide +kernel
theorem d_m_nearest_19 : decode prog_10_method_4_code 19 = .ok (.lload 4, 2) := by decide +kernel
theorem d_m_nearest_21 : decode prog_10_method_4_code 21 = .ok (.lconst 0, 1) := by decide +kernel
theorem d_m_nearest_22 : decode prog_10_method_4_code 22 = .ok (.lcmp, 1) := by decide +kernel
theorem d_m_nearest_23 : decode prog_10_method_4_code 23 = .ok (.ifCond .ge 24, 3) := by decide +kernel
theorem d_m_nearest_26 : decode prog_10_method_4_code 26 = .ok (.lload 6, 2) := by decide +kernel
theorem d_m_nearest_28 : decode prog_10_method_4_code 28 = .ok (.ldc2_w 54, 3) := by decide +kernel
theorem d_m_nearest_31 : decode prog_10_method_4_code 31 = .ok (.lmul, 1) := by decide +kernel
theorem d_m_nearest_32 : decode prog_10_method_4_code 32 = .ok (.lload_n 2, 1) := by decide +kernel
theorem d_m_nearest_33 : decode prog_10_method_4_code 33 = .ok (.lmul, 1) := by decide +kernel
theorem d_m_nearest_34 : decode prog_10_method_4_code 34 = .ok (.lload 4, 2) := by decide +kernel
theorem d_m_nearest_36 : decode prog_10_method_4_code 36 = .ok (.lcmp, 1) := by decide +kernel
theorem d_m_nearest_37 : decode prog_10_method_4_code 37 = .ok (.ifCond .eq 10, 3) := by decide +kernel
theorem d_m_nearest_40 : decode prog_10_method_4_code 40 = .ok (.lload 6, 2) := by decide +kernel
theorem d_m_nearest_42 : decode prog_10_method_4_code 42 = .ok (.lconst 1, 1) := by decide +kernel
theorem d_m_nearest_43 : decode prog_10_method_4_code 43 = .ok (.lsub, 1) := by decide +kernel
theorem d_m_nearest_44 : decode prog_10_method_4_code 44 = .ok (.goto 5, 3) := by decide +kernel
theorem d_m_nearest_47 : decode prog_10_method_4_code 47 = .ok (.lload 6, 2) := by decide +kernel
theorem d_m_nearest_49 : decode prog_10_method_4_code 49 = .ok (.lreturn, 1) := by decide +kernel
theorem d_m_text_0 : decode prog_10_method_5_code 0 = .ok (.iconst 0, 1) := by decide +kernel
theorem d_m_text_1 : decode prog_10_method_5_code 1 = .ok (.istore_n 3, 1) := by decide +kernel
theorem d_m_text_2 : decode prog_10_method_5_code 2 = .ok (.iconst 1, 1) := by decide +kernel
theorem d_m_text_3 : decode prog_10_method_5_code 3 = .ok (.istore 4, 2) := by decide +kernel
theorem d_m_text_5 : decode prog_10_method_5_code 5 = .ok (.iconst 0, 1) := by decide +kernel
theorem d_m_text_6 : decode prog_10_method_5_code 6 = .ok (.istore 5, 2) := by decide +kernel
theorem d_m_text_8 : decode prog_10_method_5_code 8 = .ok (.iload 5, 2) := by decide +kernel
theorem d_m_text_10 : decode prog_10_method_5_code 10 = .ok (.bipush 8, 2) := by decide +kernel
theorem d_m_text_12 : decode prog_10_method_5_code 12 = .ok (.if_icmp .ge 68, 3) := by decide +kernel
theorem d_m_text_15 : decode prog_10_method_5_code 15 = .ok (.lload_n 1, 1) := by decide +kernel
theorem d_m_text_16 : decode prog_10_method_5_code 16 = .ok (.bipush 8, 2) := by decide +kernel
theorem d_m_text_18 : decode prog_10_method_5_code 18 = .ok (.iload 5, 2) := by decide +kernel
theorem d_m_text_20 : decode prog_10_method_5_code 20 = .ok (.imul, 1) := by decide +kernel
theorem d_m_text_21 : decode prog_10_method_5_code 21 = .ok (.lshr, 1) := by decide +kernel
theorem d_m_text_22 : decode prog_10_method_5_code 22 = .ok (.ldc2_w 56, 3) := by decide +kernel
theorem d_m_text_25 : decode prog_10_method_5_code 25 = .ok (.land, 1) := by decide +kernel
theorem d_m_text_26 : decode prog_10_method_5_code 26 = .ok (.l2i, 1) := by decide +kernel
theorem d_m_text_27 : decode prog_10_method_5_code 27 = .ok (.istore 6, 2) := by decide +kernel
theorem d_m_text_29 : decode prog_10_method_5_code 29 = .ok (.iload 6, 2) := by decide +kernel
theorem d_m_text_31 : decode prog_10_method_5_code 31 = .ok (.ifCond .eq 9, 3) := by decide +kernel
theorem d_m_text_34 : decode prog_10_method_5_code 34 = .ok (.iload_n 3, 1) := by decide +kernel
theorem d_m_text_35 : decode prog_10_method_5_code 35 = .ok (.iconst 1, 1) := by decide +kernel
theorem d_m_text_36 : decode prog_10_method_5_code 36 = .ok (.iadd, 1) := by decide +kernel
theorem d_m_text_37 : decode prog_10_method_5_code 37 = .ok (.goto 4, 3) := by decide +kernel
theorem d_m_text_40 : decode prog_10_method_5_code 40 = .ok (.iload_n 3, 1) := by decide +kernel
theorem d_m_text_41 : decode prog_10_method_5_code 41 = .ok (.istore_n 3, 1) := by decide +kernel
theorem d_m_text_42 : decode prog_10_method_5_code 42 = .ok (.iload 4, 2) := by decide +kernel
theorem d_m_text_44 : decode prog_10_method_5_code 44 = .ok (.ifCond .eq 27, 3) := by decide +kernel
theorem d_m_text_47 : decode prog_10_method_5_code 47 = .ok (.iload 6, 2) := by decide +kernel
theorem d_m_text_49 : decode prog_10_method_5_code 49 = .ok (.ifCond .eq 18, 3) := by decide +kernel
theorem d_m_text_52 : decode prog_10_method_5_code 52 = .ok (.iload 6, 2) := by decide +kernel
theorem d_m_text_54 : decode prog_10_method_5_code 54 = .ok (.i2l, 1) := by decide +kernel
theorem d_m_text_55 : decode prog_10_method_5_code 55 = .ok (.ldc2_w 58, 3) := by decide +kernel
theorem d_m_text_58 : decode prog_10_method_5_code 58 = .ok (.ldc2_w 60, 3) := by decide +kernel
theorem d_m_text_61 : decode prog_10_method_5_code 61 = .ok (.invokestatic 62, 3) := by decide +kernel
theorem d_m_text_64 : decode prog_10_method_5_code 64 = .ok (.ifCond .eq 7, 3) := by decide +kernel
theorem d_m_text_67 : decode prog_10_method_5_code 67 = .ok (.iconst 1, 1) := by decide +kernel
theorem d_m_text_68 : decode prog_10_method_5_code 68 = .ok (.goto 4, 3) := by decide +kernel
theorem d_m_text_71 : decode prog_10_method_5_code 71 = .ok (.iconst 0, 1) := by decide +kernel
theorem d_m_text_72 : decode prog_10_method_5_code 72 = .ok (.istore 4, 2) := by decide +kernel
theorem d_m_text_74 : decode prog_10_method_5_code 74 = .ok (.iinc 5 1, 3) := by decide +kernel
theorem d_m_text_77 : decode prog_10_method_5_code 77 = .ok (.goto (-69), 3) := by decide +kernel
theorem d_m_text_80 : decode prog_10_method_5_code 80 = .ok (.aload_n 0, 1) := by decide +kernel
theorem d_m_text_81 : decode prog_10_method_5_code 81 = .ok (.iload 4, 2) := by decide +kernel
theorem d_m_text_83 : decode prog_10_method_5_code 83 = .ok (.ifCond .ne 7, 3) := by decide +kernel
theorem d_m_text_86 : decode prog_10_method_5_code 86 = .ok (.iconst 1, 1) := by decide +kernel
theorem d_m_text_87 : decode prog_10_method_5_code 87 = .ok (.goto 20, 3) := by decide +kernel
theorem d_m_text_90 : decode prog_10_method_5_code 90 = .ok (.aload_n 0, 1) := by decide +kernel
theorem d_m_text_91 : decode prog_10_method_5_code 91 = .ok (.getfield 66, 3) := by decide +kernel
theorem d_m_text_94 : decode prog_10_method_5_code 94 = .ok (.iload_n 3, 1) := by decide +kernel
theorem d_m_text_95 : decode prog_10_method_5_code 95 = .ok (.iadd, 1) := by decide +kernel
theorem d_m_text_96 : decode prog_10_method_5_code 96 = .ok (.sipush 1200, 3) := by decide +kernel
theorem d_m_text_99 : decode prog_10_method_5_code 99 = .ok (.if_icmp .le 7, 3) := by decide +kernel
theorem d_m_text_102 : decode prog_10_method_5_code 102 = .ok (.iconst 2, 1) := by decide +kernel
theorem d_m_text_103 : decode prog_10_method_5_code 103 = .ok (.goto 4, 3) := by decide +kernel
theorem d_m_text_106 : decode prog_10_method_5_code 106 = .ok (.iconst 0, 1) := by decide +kernel
theorem d_m_text_107 : decode prog_10_method_5_code 107 = .ok (.putfield 50, 3) := by decide +kernel
theorem d_m_text_110 : decode prog_10_method_5_code 110 = .ok (.aload_n 0, 1) := by decide +kernel
theorem d_m_text_111 : decode prog_10_method_5_code 111 = .ok (.getfield 50, 3) := by decide +kernel
theorem d_m_text_114 : decode prog_10_method_5_code 114 = .ok (.ifCond .le 5, 3) := by decide +kernel
theorem d_m_text_117 : decode prog_10_method_5_code 117 = .ok (.iconst 0, 1) := by decide +kernel
theorem d_m_text_118 : decode prog_10_method_5_code 118 = .ok (.ireturn, 1) := by decide +kernel
theorem d_m_text_119 : decode prog_10_method_5_code 119 = .ok (.iconst 0, 1) := by decide +kernel
theorem d_m_text_120 : decode prog_10_method_5_code 120 = .ok (.istore 5, 2) := by decide +kernel
theorem d_m_text_122 : decode prog_10_method_5_code 122 = .ok (.iload 5, 2) := by decide +kernel
theorem d_m_text_124 : decode prog_10_method_5_code 124 = .ok (.bipush 8, 2) := by decide +kernel
theorem d_m_text_126 : decode prog_10_method_5_code 126 = .ok (.if_icmp .ge 49, 3) := by decide +kernel
theorem d_m_text_129 : decode prog_10_method_5_code 129 = .ok (.lload_n 1, 1) := by decide +kernel
theorem d_m_text_130 : decode prog_10_method_5_code 130 = .ok (.bipush 8, 2) := by decide +kernel
theorem d_m_text_132 : decode prog_10_method_5_code 132 = .ok (.iload 5, 2) := by decide +kernel
theorem d_m_text_134 : decode prog_10_method_5_code 134 = .ok (.imul, 1) := by decide +kernel
theorem d_m_text_135 : decode prog_10_method_5_code 135 = .ok (.lshr, 1) := by decide +kernel
theorem d_m_text_136 : decode prog_10_method_5_code 136 = .ok (.ldc2_w 56, 3) := by decide +kernel
theorem d_m_text_139 : decode prog_10_method_5_code 139 = .ok (.land, 1) := by decide +kernel
theorem d_m_text_140 : decode prog_10_method_5_code 140 = .ok (.l2i, 1) := by decide +kernel
theorem d_m_text_141 : decode prog_10_method_5_code 141 = .ok (.istore 6, 2) := by decide +kernel
theorem d_m_text_143 : decode prog_10_method_5_code 143 = .ok (.iload 6, 2) := by decide +kernel
theorem d_m_text_145 : decode prog_10_method_5_code 145 = .ok (.ifCond .eq 24, 3) := by decide +kernel
theorem d_m_text_148 : decode prog_10_method_5_code 148 = .ok (.aload_n 0, 1) := by decide +kernel
theorem d_m_text_149 : decode prog_10_method_5_code 149 = .ok (.getfield 7, 3) := by decide +kernel
theorem d_m_text_152 : decode prog_10_method_5_code 152 = .ok (.aload_n 0, 1) := by decide +kernel
theorem d_m_text_153 : decode prog_10_method_5_code 153 = .ok (.getfield 66, 3) := by decide +kernel
theorem d_m_text_156 : decode prog_10_method_5_code 156 = .ok (.iload 6, 2) := by decide +kernel
theorem d_m_text_158 : decode prog_10_method_5_code 158 = .ok (.iastore, 1) := by decide +kernel
theorem d_m_text_159 : decode prog_10_method_5_code 159 = .ok (.aload_n 0, 1) := by decide +kernel
theorem d_m_text_160 : decode prog_10_method_5_code 160 = .ok (.dup, 1) := by decide +kernel
theorem d_m_text_161 : decode prog_10_method_5_code 161 = .ok (.getfield 66, 3) := by decide +kernel
theorem d_m_text_164 : decode prog_10_method_5_code 164 = .ok (.iconst 1, 1) := by decide +kernel
theorem d_m_text_165 : decode prog_10_method_5_code 165 = .ok (.iadd, 1) := by decide +kernel
theorem d_m_text_166 : decode prog_10_method_5_code 166 = .ok (.putfield 66, 3) := by decide +kernel
theorem d_m_text_169 : decode prog_10_method_5_code 169 = .ok (.iinc 5 1, 3) := by decide +kernel
theorem d_m_text_172 : decode prog_10_method_5_code 172 = .ok (.goto (-50), 3) := by decide +kernel
theorem d_m_text_175 : decode prog_10_method_5_code 175 = .ok (.aload_n 0, 1) := by decide +kernel
theorem d_m_text_176 : decode prog_10_method_5_code 176 = .ok (.getfield 66, 3) := by decide +kernel
theorem d_m_text_179 : decode prog_10_method_5_code 179 = .ok (.ireturn, 1) := by decide +kernel
theorem d_m_sign_0 : decode prog_10_method_6_code 0 = .ok (.aload_n 0, 1) := by decide +kernel
theorem d_m_sign_1 : decode prog_10_method_6_code 1 = .ok (.getfield 69, 3) := by decide +kernel
theorem d_m_sign_4 : decode prog_10_method_6_code 4 = .ok (.aload_n 0, 1) := by decide +kernel
theorem d_m_sign_5 : decode prog_10_method_6_code 5 = .ok (.getfield 66, 3) := by decide +kernel
theorem d_m_sign_8 : decode prog_10_method_6_code 8 = .ok (.if_icmp .ge 15, 3) := by decide +kernel
theorem d_m_sign_11 : decode prog_10_method_6_code 11 = .ok (.aload_n 0, 1) := by decide +kernel
theorem d_m_sign_12 : decode prog_10_method_6_code 12 = .ok (.getfield 7, 3) := by decide +kernel
theorem d_m_sign_15 : decode prog_10_method_6_code 15 = .ok (.aload_n 0, 1) := by decide +kernel
theorem d_m_sign_16 : decode prog_10_method_6_code 16 = .ok (.getfield 69, 3) := by decide +kernel
theorem d_m_sign_19 : decode prog_10_method_6_code 19 = .ok (.iaload, 1) := by decide +kernel
theorem d_m_sign_20 : decode prog_10_method_6_code 20 = .ok (.goto 4, 3) := by decide +kernel
theorem d_m_sign_23 : decode prog_10_method_6_code 23 = .ok (.iconst 0, 1) := by decide +kernel
theorem d_m_sign_24 : decode prog_10_method_6_code 24 = .ok (.ireturn, 1) := by decide +kernel
theorem d_m_skip_0 : decode prog_10_method_7_code 0 = .ok (.aload_n 0, 1) := by decide +kernel
theorem d_m_skip_1 : decode prog_10_method_7_code 1 = .ok (.invokevirtual 72, 3) := by decide +kernel
theorem d_m_skip_4 : decode prog_10_method_7_code 4 = .ok (.bipush 32, 2) := by decide +kernel
theorem d_m_skip_6 : decode prog_10_method_7_code 6 = .ok (.if_icmp .eq 12, 3) := by decide +kernel
theorem d_m_skip_9 : decode prog_10_method_7_code 9 = .ok (.aload_n 0, 1) := by decide +kernel
theorem d_m_skip_10 : decode prog_10_method_7_code 10 = .ok (.invokevirtual 72, 3) := by decide +kernel
theorem d_m_skip_13 : decode prog_10_method_7_code 13 = .ok (.bipush 44, 2) := by decide +kernel
theorem d_m_skip_15 : decode prog_10_method_7_code 15 = .ok (.if_icmp .ne 16, 3) := by decide +kernel
theorem d_m_skip_18 : decode prog_10_method_7_code 18 = .ok (.aload_n 0, 1) := by decide +kernel
theorem d_m_skip_19 : decode prog_10_method_7_code 19 = .ok (.dup, 1) := by decide +kernel
theorem d_m_skip_20 : decode prog_10_method_7_code 20 = .ok (.getfield 69, 3) := by decide +kernel
theorem d_m_skip_23 : decode prog_10_method_7_code 23 = .ok (.iconst 1, 1) := by decide +kernel
theorem d_m_skip_24 : decode prog_10_method_7_code 24 = .ok (.iadd, 1) := by decide +kernel
theorem d_m_skip_25 : decode prog_10_method_7_code 25 = .ok (.putfield 69, 3) := by decide +kernel
theorem d_m_skip_28 : decode prog_10_method_7_code 28 = .ok (.goto (-28), 3) := by decide +kernel
theorem d_m_skip_31 : decode prog_10_method_7_code 31 = .ok (.return_, 1) := by decide +kernel
theorem d_m_isDigit_0 : decode prog_10_method_8_code 0 = .ok (.iload_n 0, 1) := by decide +kernel
theorem d_m_isDigit_1 : decode prog_10_method_8_code 1 = .ok (.bipush 48, 2) := by decide +kernel
theorem d_m_isDigit_3 : decode prog_10_method_8_code 3 = .ok (.if_icmp .lt 13, 3) := by decide +kernel
theorem d_m_isDigit_6 : decode prog_10_method_8_code 6 = .ok (.iload_n 0, 1) := by decide +kernel
theorem d_m_isDigit_7 : decode prog_10_method_8_code 7 = .ok (.bipush 57, 2) := by decide +kernel
theorem d_m_isDigit_9 : decode prog_10_method_8_code 9 = .ok (.if_icmp .gt 7, 3) := by decide +kernel
theorem d_m_isDigit_12 : decode prog_10_method_8_code 12 = .ok (.iconst 1, 1) := by decide +kernel
theorem d_m_isDigit_13 : decode prog_10_method_8_code 13 = .ok (.goto 4, 3) := by decide +kernel
theorem d_m_isDigit_16 : decode prog_10_method_8_code 16 = .ok (.iconst 0, 1) := by decide +kernel
theorem d_m_isDigit_17 : decode prog_10_method_8_code 17 = .ok (.ireturn, 1) := by decide +kernel
theorem d_m_isNumeral_0 : decode prog_10_method_9_code 0 = .ok (.aload_n 0, 1) := by decide +kernel
theorem d_m_isNumeral_1 : decode prog_10_method_9_code 1 = .ok (.invokevirtual 72, 3) := by decide +kernel
theorem d_m_isNumeral_4 : decode prog_10_method_9_code 4 = .ok (.istore_n 1, 1) := by decide +kernel
theorem d_m_isNumeral_5 : decode prog_10_method_9_code 5 = .ok (.iload_n 1, 1) := by decide +kernel
theorem d_m_isNumeral_6 : decode prog_10_method_9_code 6 = .ok (.invokestatic 76, 3) := by decide +kernel
theorem d_m_isNumeral_9 : decode prog_10_method_9_code 9 = .ok (.ifCond .ne 21, 3) := by decide +kernel
theorem d_m_isNumeral_12 : decode prog_10_method_9_code 12 = .ok (.iload_n 1, 1) := by decide +kernel
theorem d_m_isNumeral_13 : decode prog_10_method_9_code 13 = .ok (.bipush 43, 2) := by decide +kernel
theorem d_m_isNumeral_15 : decode prog_10_method_9_code 15 = .ok (.if_icmp .eq 15, 3) := by decide +kernel
theorem d_m_isNumeral_18 : decode prog_10_method_9_code 18 = .ok (.iload_n 1, 1) := by decide +kernel
theorem d_m_isNumeral_19 : decode prog_10_method_9_code 19 = .ok (.bipush 45, 2) := by decide +kernel
theorem d_m_isNumeral_21 : decode prog_10_method_9_code 21 = .ok (.if_icmp .eq 9, 3) := by decide +kernel
theorem d_m_isNumeral_24 : decode prog_10_method_9_code 24 = .ok (.iload_n 1, 1) := by decide +kernel
theorem d_m_isNumeral_25 : decode prog_10_method_9_code 25 = .ok (.bipush 46, 2) := by decide +kernel
theorem d_m_isNumeral_27 : decode prog_10_method_9_code 27 = .ok (.if_icmp .ne 7, 3) := by decide +kernel
theorem d_m_isNumeral_30 : decode prog_10_method_9_code 30 = .ok (.iconst 1, 1) := by decide +kernel
theorem d_m_isNumeral_31 : decode prog_10_method_9_code 31 = .ok (.goto 4, 3) := by decide +kernel
theorem d_m_isNumeral_34 : decode prog_10_method_9_code 34 = .ok (.iconst 0, 1) := by decide +kernel
theorem d_m_isNumeral_35 : decode prog_10_method_9_code 35 = .ok (.ireturn, 1) := by decide +kernel
theorem d_m_passDigits_0 : decode prog_10_method_10_code 0 = .ok (.iconst 0, 1) := by decide +kernel
theorem d_m_passDigits_1 : decode prog_10_method_10_code 1 = .ok (.istore_n 1, 1) := by decide +kernel
theorem d_m_passDigits_2 : decode prog_10_method_10_code 2 = .ok (.aload_n 0, 1) := by decide +kernel
theorem d_m_passDigits_3 : decode prog_10_method_10_code 3 = .ok (.invokevirtual 72, 3) := by decide +kernel
theorem d_m_passDigits_6 : decode prog_10_method_10_code 6 = .ok (.invokestatic 76, 3) := by decide +kernel
theorem d_m_passDigits_9 : decode prog_10_method_10_code 9 = .ok (.ifCond .eq 65, 3) := by decide +kernel
theorem d_m_passDigits_12 : decode prog_10_method_10_code 12 = .ok (.aload_n 0, 1) := by decide +kernel
theorem d_m_passDigits_13 : decode prog_10_method_10_code 13 = .ok (.iload_n 1, 1) := by decide +kernel
theorem d_m_passDigits_14 : decode prog_10_method_10_code 14 = .ok (.bipush 10, 2) := by decide +kernel
theorem d_m_passDigits_16 : decode prog_10_method_10_code 16 = .ok (.if_icmp .ge 35, 3) := by decide +kernel
theorem d_m_passDigits_19 : decode prog_10_method_10_code 19 = .ok (.aload_n 0, 1) := by decide +kernel
theorem d_m_passDigits_20 : decode prog_10_method_10_code 20 = .ok (.getfield 80, 3) := by decide +kernel
theorem d_m_passDigits_23 : decode prog_10_method_10_code 23 = .ok (.ldc2_w 84, 3) := by decide +kernel
theorem d_m_passDigits_26 : decode prog_10_method_10_code 26 = .ok (.lcmp, 1) := by decide +kernel
theorem d_m_passDigits_27 : decode prog_10_method_10_code 27 = .ok (.ifCond .ge 24, 3) := by decide +kernel
theorem d_m_passDigits_30 : decode prog_10_method_10_code 30 = .ok (.ldc2_w 86, 3) := by decide +kernel
theorem d_m_passDigits_33 : decode prog_10_method_10_code 33 = .ok (.aload_n 0, 1) := by decide +kernel
theorem d_m_passDigits_34 : decode prog_10_method_10_code 34 = .ok (.getfield 80, 3) := by decide +kernel
theorem d_m_passDigits_37 : decode prog_10_method_10_code 37 = .ok (.lmul, 1) := by decide +kernel
theorem d_m_passDigits_38 : decode prog_10_method_10_code 38 = .ok (.aload_n 0, 1) := by decide +kernel
theorem d_m_passDigits_39 : decode prog_10_method_10_code 39 = .ok (.invokevirtual 72, 3) := by decide +kernel
theorem d_m_passDigits_42 : decode prog_10_method_10_code 42 = .ok (.i2l, 1) := by decide +kernel
theorem d_m_passDigits_43 : decode prog_10_method_10_code 43 = .ok (.ladd, 1) := by decide +kernel
theorem d_m_passDigits_44 : decode prog_10_method_10_code 44 = .ok (.ldc2_w 88, 3) := by decide +kernel
theorem d_m_passDigits_47 : decode prog_10_method_10_code 47 = .ok (.lsub, 1) := by decide +kernel
theorem d_m_passDigits_48 : decode prog_10_method_10_code 48 = .ok (.goto 7, 3) := by decide +kernel
theorem d_m_passDigits_51 : decode prog_10_method_10_code 51 = .ok (.aload_n 0, 1) := by decide +kernel
theorem d_m_passDigits_52 : decode prog_10_method_10_code 52 = .ok (.getfield 80, 3) := by decide +kernel
theorem d_m_passDigits_55 : decode prog_10_method_10_code 55 = .ok (.putfield 80, 3) := by decide +kernel
theorem d_m_passDigits_58 : decode prog_10_method_10_code 58 = .ok (.aload_n 0, 1) := by decide +kernel
theorem d_m_passDigits_59 : decode prog_10_method_10_code 59 = .ok (.dup, 1) := by decide +kernel
theorem d_m_passDigits_60 : decode prog_10_method_10_code 60 = .ok (.getfield 69, 3) := by decide +kernel
theorem d_m_passDigits_63 : decode prog_10_method_10_code 63 = .ok (.iconst 1, 1) := by decide +kernel
theorem d_m_passDigits_64 : decode prog_10_method_10_code 64 = .ok (.iadd, 1) := by decide +kernel
theorem d_m_passDigits_65 : decode prog_10_method_10_code 65 = .ok (.putfield 69, 3) := by decide +kernel
theorem d_m_passDigits_68 : decode prog_10_method_10_code 68 = .ok (.iinc 1 1, 3) := by decide +kernel
theorem d_m_passDigits_71 : decode prog_10_method_10_code 71 = .ok (.goto (-69), 3) := by decide +kernel
theorem d_m_passDigits_74 : decode prog_10_method_10_code 74 = .ok (.iload_n 1, 1) := by decide +kernel
theorem d_m_passDigits_75 : decode prog_10_method_10_code 75 = .ok (.ireturn, 1) := by decide +kernel
theorem d_m_numeral_0 : decode prog_10_method_11_code 0 = .ok (.aload_n 0, 1) := by decide +kernel
theorem d_m_numeral_1 : decode prog_10_method_11_code 1 = .ok (.invokevirtual 90, 3) := by decide +kernel
theorem d_m_numeral_4 : decode prog_10_method_11_code 4 = .ok (.aload_n 0, 1) := by decide +kernel
theorem d_m_numeral_5 : decode prog_10_method_11_code 5 = .ok (.getfield 69, 3) := by decide +kernel
theorem d_m_numeral_8 : decode prog_10_method_11_code 8 = .ok (.istore_n 1, 1) := by decide +kernel
theorem d_m_numeral_9 : decode prog_10_method_11_code 9 = .ok (.aload_n 0, 1) := by decide +kernel
theorem d_m_numeral_10 : decode prog_10_method_11_code 10 = .ok (.invokevirtual 93, 3) := by decide +kernel
theorem d_m_numeral_13 : decode prog_10_method_11_code 13 = .ok (.ifCond .ne 12, 3) := by decide +kernel
theorem d_m_numeral_16 : decode prog_10_method_11_code 16 = .ok (.aload_n 0, 1) := by decide +kernel
theorem d_m_numeral_17 : decode prog_10_method_11_code 17 = .ok (.aload_n 0, 1) := by decide +kernel
theorem d_m_numeral_18 : decode prog_10_method_11_code 18 = .ok (.getfield 69, 3) := by decide +kernel
theorem d_m_numeral_21 : decode prog_10_method_11_code 21 = .ok (.putfield 97, 3) := by decide +kernel
theorem d_m_numeral_24 : decode prog_10_method_11_code 24 = .ok (.return_, 1) := by decide +kernel
theorem d_m_numeral_25 : decode prog_10_method_11_code 25 = .ok (.aload_n 0, 1) := by decide +kernel
theorem d_m_numeral_26 : decode prog_10_method_11_code 26 = .ok (.invokevirtual 72, 3) := by decide +kernel
theorem d_m_numeral_29 : decode prog_10_method_11_code 29 = .ok (.bipush 45, 2) := by decide +kernel
theorem d_m_numeral_31 : decode prog_10_method_11_code 31 = .ok (.if_icmp .ne 7, 3) := by decide +kernel
theorem d_m_numeral_34 : decode prog_10_method_11_code 34 = .ok (.iconst 1, 1) := by decide +kernel
theorem d_m_numeral_35 : decode prog_10_method_11_code 35 = .ok (.goto 4, 3) := by decide +kernel
theorem d_m_numeral_38 : decode prog_10_method_11_code 38 = .ok (.iconst 0, 1) := by decide +kernel
theorem d_m_numeral_39 : decode prog_10_method_11_code 39 = .ok (.istore_n 2, 1) := by decide +kernel
theorem d_m_numeral_40 : decode prog_10_method_11_code 40 = .ok (.aload_n 0, 1) := by decide +kernel
theorem d_m_numeral_41 : decode prog_10_method_11_code 41 = .ok (.aload_n 0, 1) := by decide +kernel
theorem d_m_numeral_42 : decode prog_10_method_11_code 42 = .ok (.invokevirtual 72, 3) := by decide +kernel
theorem d_m_numeral_45 : decode prog_10_method_11_code 45 = .ok (.bipush 45, 2) := by decide +kernel
theorem d_m_numeral_47 : decode prog_10_method_11_code 47 = .ok (.if_icmp .eq 12, 3) := by decide +kernel
theorem d_m_numeral_50 : decode prog_10_method_11_code 50 = .ok (.aload_n 0, 1) := by decide +kernel
theorem d_m_numeral_51 : decode prog_10_method_11_code 51 = .ok (.invokevirtual 72, 3) := by decide +kernel
theorem d_m_numeral_54 : decode prog_10_method_11_code 54 = .ok (.bipush 43, 2) := by decide +kernel
theorem d_m_numeral_56 : decode prog_10_method_11_code 56 = .ok (.if_icmp .ne 12, 3) := by decide +kernel
theorem d_m_numeral_59 : decode prog_10_method_11_code 59 = .ok (.aload_n 0, 1) := by decide +kernel
theorem d_m_numeral_60 : decode prog_10_method_11_code 60 = .ok (.getfield 69, 3) := by decide +kernel
theorem d_m_numeral_63 : decode prog_10_method_11_code 63 = .ok (.iconst 1, 1) := by decide +kernel
theorem d_m_numeral_64 : decode prog_10_method_11_code 64 = .ok (.iadd, 1) := by decide +kernel
theorem d_m_numeral_65 : decode prog_10_method_11_code 65 = .ok (.goto 7, 3) := by decide +kernel
theorem d_m_numeral_68 : decode prog_10_method_11_code 68 = .ok (.aload_n 0, 1) := by decide +kernel
theorem d_m_numeral_69 : decode prog_10_method_11_code 69 = .ok (.getfield 69, 3) := by decide +kernel
theorem d_m_numeral_72 : decode prog_10_method_11_code 72 = .ok (.putfield 69, 3) := by decide +kernel
theorem d_m_numeral_75 : decode prog_10_method_11_code 75 = .ok (.aload_n 0, 1) := by decide +kernel
theorem d_m_numeral_76 : decode prog_10_method_11_code 76 = .ok (.lconst 0, 1) := by decide +kernel
theorem d_m_numeral_77 : decode prog_10_method_11_code 77 = .ok (.putfield 80, 3) := by decide +kernel
theorem d_m_numeral_80 : decode prog_10_method_11_code 80 = .ok (.aload_n 0, 1) := by decide +kernel
theorem d_m_numeral_81 : decode prog_10_method_11_code 81 = .ok (.invokevirtual 100, 3) := by decide +kernel
theorem d_m_numeral_84 : decode prog_10_method_11_code 84 = .ok (.istore_n 3, 1) := by decide +kernel
theorem d_m_numeral_85 : decode prog_10_method_11_code 85 = .ok (.aload_n 0, 1) := by decide +kernel
theorem d_m_numeral_86 : decode prog_10_method_11_code 86 = .ok (.iconst 0, 1) := by decide +kernel
theorem d_m_numeral_87 : decode prog_10_method_11_code 87 = .ok (.putfield 103, 3) := by decide +kernel
theorem d_m_numeral_90 : decode prog_10_method_11_code 90 = .ok (.aload_n 0, 1) := by decide +kernel
theorem d_m_numeral_91 : decode prog_10_method_11_code 91 = .ok (.invokevirtual 72, 3) := by decide +kernel
theorem d_m_numeral_94 : decode prog_10_method_11_code 94 = .ok (.bipush 46, 2) := by decide +kernel
theorem d_m_numeral_96 : decode prog_10_method_11_code 96 = .ok (.if_icmp .ne 21, 3) := by decide +kernel
theorem d_m_numeral_99 : decode prog_10_method_11_code 99 = .ok (.aload_n 0, 1) := by decide +kernel
theorem d_m_numeral_100 : decode prog_10_method_11_code 100 = .ok (.dup, 1) := by decide +kernel
theorem d_m_numeral_101 : decode prog_10_method_11_code 101 = .ok (.getfield 69, 3) := by decide +kernel
theorem d_m_numeral_104 : decode prog_10_method_11_code 104 = .ok (.iconst 1, 1) := by decide +kernel
theorem d_m_numeral_105 : decode prog_10_method_11_code 105 = .ok (.iadd, 1) := by decide +kernel
theorem d_m_numeral_106 : decode prog_10_method_11_code 106 = .ok (.putfield 69, 3) := by decide +kernel
theorem d_m_numeral_109 : decode prog_10_method_11_code 109 = .ok (.aload_n 0, 1) := by decide +kernel
theorem d_m_numeral_110 : decode prog_10_method_11_code 110 = .ok (.aload_n 0, 1) := by decide +kernel
theorem d_m_numeral_111 : decode prog_10_method_11_code 111 = .ok (.invokevirtual 100, 3) := by decide +kernel
theorem d_m_numeral_114 : decode prog_10_method_11_code 114 = .ok (.putfield 103, 3) := by decide +kernel
theorem d_m_numeral_117 : decode prog_10_method_11_code 117 = .ok (.iload_n 3, 1) := by decide +kernel
theorem d_m_numeral_118 : decode prog_10_method_11_code 118 = .ok (.aload_n 0, 1) := by decide +kernel
theorem d_m_numeral_119 : decode prog_10_method_11_code 119 = .ok (.getfield 103, 3) := by decide +kernel
theorem d_m_numeral_122 : decode prog_10_method_11_code 122 = .ok (.iadd, 1) := by decide +kernel
theorem d_m_numeral_123 : decode prog_10_method_11_code 123 = .ok (.istore_n 3, 1) := by decide +kernel
theorem d_m_numeral_124 : decode prog_10_method_11_code 124 = .ok (.iload_n 3, 1) := by decide +kernel
theorem d_m_numeral_125 : decode prog_10_method_11_code 125 = .ok (.ifCond .eq 9, 3) := by decide +kernel
theorem d_m_numeral_128 : decode prog_10_method_11_code 128 = .ok (.iload_n 3, 1) := by decide +kernel
theorem d_m_numeral_129 : decode prog_10_method_11_code 129 = .ok (.bipush 9, 2) := by decide +kernel
theorem d_m_numeral_131 : decode prog_10_method_11_code 131 = .ok (.if_icmp .le 9, 3) := by decide +kernel
theorem d_m_numeral_134 : decode prog_10_method_11_code 134 = .ok (.aload_n 0, 1) := by decide +kernel
theorem d_m_numeral_135 : decode prog_10_method_11_code 135 = .ok (.iload_n 1, 1) := by decide +kernel
theorem d_m_numeral_136 : decode prog_10_method_11_code 136 = .ok (.putfield 97, 3) := by decide +kernel
theorem d_m_numeral_139 : decode prog_10_method_11_code 139 = .ok (.return_, 1) := by decide +kernel
theorem d_m_numeral_140 : decode prog_10_method_11_code 140 = .ok (.lconst 1, 1) := by decide +kernel
theorem d_m_numeral_141 : decode prog_10_method_11_code 141 = .ok (.lstore 4, 2) := by decide +kernel
theorem d_m_numeral_143 : decode prog_10_method_11_code 143 = .ok (.iconst 0, 1) := by decide +kernel
theorem d_m_numeral_144 : decode prog_10_method_11_code 144 = .ok (.istore 6, 2) := by decide +kernel
theorem d_m_numeral_146 : decode prog_10_method_11_code 146 = .ok (.iload 6, 2) := by decide +kernel
theorem d_m_numeral_148 : decode prog_10_method_11_code 148 = .ok (.aload_n 0, 1) := by decide +kernel
theorem d_m_numeral_149 : decode prog_10_method_11_code 149 = .ok (.getfield 103, 3) := by decide +kernel
theorem d_m_numeral_152 : decode prog_10_method_11_code 152 = .ok (.if_icmp .ge 17, 3) := by decide +kernel
theorem d_m_numeral_155 : decode prog_10_method_11_code 155 = .ok (.lload 4, 2) := by decide +kernel
theorem d_m_numeral_157 : decode prog_10_method_11_code 157 = .ok (.ldc2_w 86, 3) := by decide +kernel
theorem d_m_numeral_160 : decode prog_10_method_11_code 160 = .ok (.lmul, 1) := by decide +kernel
theorem d_m_numeral_161 : decode prog_10_method_11_code 161 = .ok (.lstore 4, 2) := by decide +kernel
theorem d_m_numeral_163 : decode prog_10_method_11_code 163 = .ok (.iinc 6 1, 3) := by decide +kernel
theorem d_m_numeral_166 : decode prog_10_method_11_code 166 = .ok (.goto (-20), 3) := by decide +kernel
theorem d_m_numeral_169 : decode prog_10_method_11_code 169 = .ok (.aload_n 0, 1) := by decide +kernel
theorem d_m_numeral_170 : decode prog_10_method_11_code 170 = .ok (.iload_n 2, 1) := by decide +kernel
theorem d_m_numeral_171 : decode prog_10_method_11_code 171 = .ok (.ifCond .eq 14, 3) := by decide +kernel
theorem d_m_numeral_174 : decode prog_10_method_11_code 174 = .ok (.ldc2_w 106, 3) := by decide +kernel
theorem d_m_numeral_177 : decode prog_10_method_11_code 177 = .ok (.aload_n 0, 1) := by decide +kernel
theorem d_m_numeral_178 : decode prog_10_method_11_code 178 = .ok (.getfield 80, 3) := by decide +kernel
theorem d_m_numeral_181 : decode prog_10_method_11_code 181 = .ok (.lmul, 1) := by decide +kernel
theorem d_m_numeral_182 : decode prog_10_method_11_code 182 = .ok (.goto 11, 3) := by decide +kernel
theorem d_m_numeral_185 : decode prog_10_method_11_code 185 = .ok (.ldc2_w 108, 3) := by decide +kernel
theorem d_m_numeral_188 : decode prog_10_method_11_code 188 = .ok (.aload_n 0, 1) := by decide +kernel
theorem d_m_numeral_189 : decode prog_10_method_11_code 189 = .ok (.getfield 80, 3) := by decide +kernel
theorem d_m_numeral_192 : decode prog_10_method_11_code 192 = .ok (.lmul, 1) := by decide +kernel
theorem d_m_numeral_193 : decode prog_10_method_11_code 193 = .ok (.lload 4, 2) := by decide +kernel
theorem d_m_numeral_195 : decode prog_10_method_11_code 195 = .ok (.invokestatic 110, 3) := by decide +kernel
theorem d_m_numeral_198 : decode prog_10_method_11_code 198 = .ok (.putfield 114, 3) := by decide +kernel
theorem d_m_numeral_201 : decode prog_10_method_11_code 201 = .ok (.aload_n 0, 1) := by decide +kernel
theorem d_m_numeral_202 : decode prog_10_method_11_code 202 = .ok (.aload_n 0, 1) := by decide +kernel
theorem d_m_numeral_203 : decode prog_10_method_11_code 203 = .ok (.getfield 114, 3) := by decide +kernel
theorem d_m_numeral_206 : decode prog_10_method_11_code 206 = .ok (.ldc2_w 117, 3) := by decide +kernel
theorem d_m_numeral_209 : decode prog_10_method_11_code 209 = .ok (.ldc2_w 119, 3) := by decide +kernel
theorem d_m_numeral_212 : decode prog_10_method_11_code 212 = .ok (.invokestatic 62, 3) := by decide +kernel
theorem d_m_numeral_215 : decode prog_10_method_11_code 215 = .ok (.ifCond .eq 10, 3) := by decide +kernel
theorem d_m_numeral_218 : decode prog_10_method_11_code 218 = .ok (.aload_n 0, 1) := by decide +kernel
theorem d_m_numeral_219 : decode prog_10_method_11_code 219 = .ok (.getfield 97, 3) := by decide +kernel
theorem d_m_numeral_222 : decode prog_10_method_11_code 222 = .ok (.goto 4, 3) := by decide +kernel
theorem d_m_numeral_225 : decode prog_10_method_11_code 225 = .ok (.iload_n 1, 1) := by decide +kernel
theorem d_m_numeral_226 : decode prog_10_method_11_code 226 = .ok (.putfield 97, 3) := by decide +kernel
theorem d_m_numeral_229 : decode prog_10_method_11_code 229 = .ok (.return_, 1) := by decide +kernel
theorem d_m_numerals_0 : decode prog_10_method_12_code 0 = .ok (.iconst 0, 1) := by decide +kernel
theorem d_m_numerals_1 : decode prog_10_method_12_code 1 = .ok (.istore_n 2, 1) := by decide +kernel
theorem d_m_numerals_2 : decode prog_10_method_12_code 2 = .ok (.iload_n 2, 1) := by decide +kernel
theorem d_m_numerals_3 : decode prog_10_method_12_code 3 = .ok (.iload_n 1, 1) := by decide +kernel
theorem d_m_numerals_4 : decode prog_10_method_12_code 4 = .ok (.if_icmp .ge 30, 3) := by decide +kernel
theorem d_m_numerals_7 : decode prog_10_method_12_code 7 = .ok (.aload_n 0, 1) := by decide +kernel
theorem d_m_numerals_8 : decode prog_10_method_12_code 8 = .ok (.getfield 97, 3) := by decide +kernel
theorem d_m_numerals_11 : decode prog_10_method_12_code 11 = .ok (.ifCond .ge 23, 3) := by decide +kernel
theorem d_m_numerals_14 : decode prog_10_method_12_code 14 = .ok (.aload_n 0, 1) := by decide +kernel
theorem d_m_numerals_15 : decode prog_10_method_12_code 15 = .ok (.invokevirtual 121, 3) := by decide +kernel
theorem d_m_numerals_18 : decode prog_10_method_12_code 18 = .ok (.aload_n 0, 1) := by decide +kernel
theorem d_m_numerals_19 : decode prog_10_method_12_code 19 = .ok (.getfield 29, 3) := by decide +kernel
theorem d_m_numerals_22 : decode prog_10_method_12_code 22 = .ok (.iload_n 2, 1) := by decide +kernel
theorem d_m_numerals_23 : decode prog_10_method_12_code 23 = .ok (.aload_n 0, 1) := by decide +kernel
theorem d_m_numerals_24 : decode prog_10_method_12_code 24 = .ok (.getfield 114, 3) := by decide +kernel
theorem d_m_numerals_27 : decode prog_10_method_12_code 27 = .ok (.lastore, 1) := by decide +kernel
theorem d_m_numerals_28 : decode prog_10_method_12_code 28 = .ok (.iinc 2 1, 3) := by decide +kernel
theorem d_m_numerals_31 : decode prog_10_method_12_code 31 = .ok (.goto (-29), 3) := by decide +kernel
theorem d_m_numerals_34 : decode prog_10_method_12_code 34 = .ok (.return_, 1) := by decide +kernel
theorem d_m_openGroup_0 : decode prog_10_method_13_code 0 = .ok (.aload_n 0, 1) := by decide +kernel
theorem d_m_openGroup_1 : decode prog_10_method_13_code 1 = .ok (.dup, 1) := by decide +kernel
theorem d_m_openGroup_2 : decode prog_10_method_13_code 2 = .ok (.getfield 69, 3) := by decide +kernel
theorem d_m_openGroup_5 : decode prog_10_method_13_code 5 = .ok (.iconst 1, 1) := by decide +kernel
theorem d_m_openGroup_6 : decode prog_10_method_13_code 6 = .ok (.iadd, 1) := by decide +kernel
theorem d_m_openGroup_7 : decode prog_10_method_13_code 7 = .ok (.putfield 69, 3) := by decide +kernel
theorem d_m_openGroup_10 : decode prog_10_method_13_code 10 = .ok (.aload_n 0, 1) := by decide +kernel
theorem d_m_openGroup_11 : decode prog_10_method_13_code 11 = .ok (.getfield 124, 3) := by decide +kernel
theorem d_m_openGroup_14 : decode prog_10_method_13_code 14 = .ok (.bipush 8, 2) := by decide +kernel
theorem d_m_openGroup_16 : decode prog_10_method_13_code 16 = .ok (.if_icmp .ne 9, 3) := by decide +kernel
theorem d_m_openGroup_19 : decode prog_10_method_13_code 19 = .ok (.aload_n 0, 1) := by decide +kernel
theorem d_m_openGroup_20 : decode prog_10_method_13_code 20 = .ok (.iload_n 1, 1) := by decide +kernel
theorem d_m_openGroup_21 : decode prog_10_method_13_code 21 = .ok (.putfield 97, 3) := by decide +kernel
theorem d_m_openGroup_24 : decode prog_10_method_13_code 24 = .ok (.return_, 1) := by decide +kernel
theorem d_m_openGroup_25 : decode prog_10_method_13_code 25 = .ok (.aload_n 0, 1) := by decide +kernel
theorem d_m_openGroup_26 : decode prog_10_method_13_code 26 = .ok (.bipush 6, 2) := by decide +kernel
theorem d_m_openGroup_28 : decode prog_10_method_13_code 28 = .ok (.invokevirtual 127, 3) := by decide +kernel
theorem d_m_openGroup_31 : decode prog_10_method_13_code 31 = .ok (.aload_n 0, 1) := by decide +kernel
theorem d_m_openGroup_32 : decode prog_10_method_13_code 32 = .ok (.getfield 97, 3) := by decide +kernel
theorem d_m_openGroup_35 : decode prog_10_method_13_code 35 = .ok (.ifCond .lt 4, 3) := by decide +kernel
theorem d_m_openGroup_38 : decode prog_10_method_13_code 38 = .ok (.return_, 1) := by decide +kernel
theorem d_m_openGroup_39 : decode prog_10_method_13_code 39 = .ok (.bipush 6, 2) := by decide +kernel
theorem d_m_openGroup_41 : decode prog_10_method_13_code 41 = .ok (.aload_n 0, 1) := by decide +kernel
theorem d_m_openGroup_42 : decode prog_10_method_13_code 42 = .ok (.getfield 124, 3) := by decide +kernel
theorem d_m_openGroup_45 : decode prog_10_method_13_code 45 = .ok (.imul, 1) := by decide +kernel
theorem d_m_openGroup_46 : decode prog_10_method_13_code 46 = .ok (.istore_n 2, 1) := by decide +kernel
theorem d_m_openGroup_47 : decode prog_10_method_13_code 47 = .ok (.iload_n 2, 1) := by decide +kernel
theorem d_m_openGroup_48 : decode prog_10_method_13_code 48 = .ok (.bipush 6, 2) := by decide +kernel
theorem d_m_openGroup_50 : decode prog_10_method_13_code 50 = .ok (.iadd, 1) := by decide +kernel
theorem d_m_openGroup_51 : decode prog_10_method_13_code 51 = .ok (.istore_n 3, 1) := by decide +kernel
theorem d_m_openGroup_52 : decode prog_10_method_13_code 52 = .ok (.iconst 0, 1) := by decide +kernel
theorem d_m_openGroup_53 : decode prog_10_method_13_code 53 = .ok (.istore 4, 2) := by decide +kernel
theorem d_m_openGroup_55 : decode prog_10_method_13_code 55 = .ok (.iload 4, 2) := by decide +kernel
theorem d_m_openGroup_57 : decode prog_10_method_13_code 57 = .ok (.iconst 2, 1) := by decide +kernel
theorem d_m_openGroup_58 : decode prog_10_method_13_code 58 = .ok (.if_icmp .ge 175, 3) := by decide +kernel
theorem d_m_openGroup_61 : decode prog_10_method_13_code 61 = .ok (.aload_n 0, 1) := by decide +kernel
theorem d_m_openGroup_62 : decode prog_10_method_13_code 62 = .ok (.getfield 25, 3) := by decide +kernel
theorem d_m_openGroup_65 : decode prog_10_method_13_code 65 = .ok (.iload_n 3, 1) := by decide +kernel
theorem d_m_openGroup_66 : decode prog_10_method_13_code 66 = .ok (.iload 4, 2) := by decide +kernel
theorem d_m_openGroup_68 : decode prog_10_method_13_code 68 = .ok (.iadd, 1) := by decide +kernel
theorem d_m_openGroup_69 : decode prog_10_method_13_code 69 = .ok (.aload_n 0, 1) := by decide +kernel
theorem d_m_openGroup_70 : decode prog_10_method_13_code 70 = .ok (.getfield 25, 3) := by decide +kernel
theorem d_m_openGroup_73 : decode prog_10_method_13_code 73 = .ok (.iload_n 2, 1) := by decide +kernel
theorem d_m_openGroup_74 : decode prog_10_method_13_code 74 = .ok (.iload 4, 2) := by decide +kernel
theorem d_m_openGroup_76 : decode prog_10_method_13_code 76 = .ok (.iadd, 1) := by decide +kernel
theorem d_m_openGroup_77 : decode prog_10_method_13_code 77 = .ok (.laload, 1) := by decide +kernel
theorem d_m_openGroup_78 : decode prog_10_method_13_code 78 = .ok (.aload_n 0, 1) := by decide +kernel
theorem d_m_openGroup_79 : decode prog_10_method_13_code 79 = .ok (.getfield 29, 3) := by decide +kernel
theorem d_m_openGroup_82 : decode prog_10_method_13_code 82 = .ok (.iconst 0, 1) := by decide +kernel
theorem d_m_openGroup_83 : decode prog_10_method_13_code 83 = .ok (.laload, 1) := by decide +kernel
theorem d_m_openGroup_84 : decode prog_10_method_13_code 84 = .ok (.lmul, 1) := by decide +kernel
theorem d_m_openGroup_85 : decode prog_10_method_13_code 85 = .ok (.aload_n 0, 1) := by decide +kernel
theorem d_m_openGroup_86 : decode prog_10_method_13_code 86 = .ok (.getfield 25, 3) := by decide +kernel
theorem d_m_openGroup_89 : decode prog_10_method_13_code 89 = .ok (.iload_n 2, 1) := by decide +kernel
theorem d_m_openGroup_90 : decode prog_10_method_13_code 90 = .ok (.iconst 2, 1) := by decide +kernel
theorem d_m_openGroup_91 : decode prog_10_method_13_code 91 = .ok (.iadd, 1) := by decide +kernel
theorem d_m_openGroup_92 : decode prog_10_method_13_code 92 = .ok (.iload 4, 2) := by decide +kernel
theorem d_m_openGroup_94 : decode prog_10_method_13_code 94 = .ok (.iadd, 1) := by decide +kernel
theorem d_m_openGroup_95 : decode prog_10_method_13_code 95 = .ok (.laload, 1) := by decide +kernel
theorem d_m_openGroup_96 : decode prog_10_method_13_code 96 = .ok (.aload_n 0, 1) := by decide +kernel
theorem d_m_openGroup_97 : decode prog_10_method_13_code 97 = .ok (.getfield 29, 3) := by decide +kernel
theorem d_m_openGroup_100 : decode prog_10_method_13_code 100 = .ok (.iconst 1, 1) := by decide +kernel
theorem d_m_openGroup_101 : decode prog_10_method_13_code 101 = .ok (.laload, 1) := by decide +kernel
theorem d_m_openGroup_102 : decode prog_10_method_13_code 102 = .ok (.lmul, 1) := by decide +kernel
theorem d_m_openGroup_103 : decode prog_10_method_13_code 103 = .ok (.ladd, 1) := by decide +kernel
theorem d_m_openGroup_104 : decode prog_10_method_13_code 104 = .ok (.ldc2_w 108, 3) := by decide +kernel
theorem d_m_openGroup_107 : decode prog_10_method_13_code 107 = .ok (.invokestatic 110, 3) := by decide +kernel
theorem d_m_openGroup_110 : decode prog_10_method_13_code 110 = .ok (.lastore, 1) := by decide +kernel
theorem d_m_openGroup_111 : decode prog_10_method_13_code 111 = .ok (.aload_n 0, 1) := by decide +kernel
theorem d_m_openGroup_112 : decode prog_10_method_13_code 112 = .ok (.getfield 25, 3) := by decide +kernel
theorem d_m_openGroup_115 : decode prog_10_method_13_code 115 = .ok (.iload_n 3, 1) := by decide +kernel
theorem d_m_openGroup_116 : decode prog_10_method_13_code 116 = .ok (.iconst 2, 1) := by decide +kernel
theorem d_m_openGroup_117 : decode prog_10_method_13_code 117 = .ok (.iadd, 1) := by decide +kernel
theorem d_m_openGroup_118 : decode prog_10_method_13_code 118 = .ok (.iload 4, 2) := by decide +kernel
theorem d_m_openGroup_120 : decode prog_10_method_13_code 120 = .ok (.iadd, 1) := by decide +kernel
theorem d_m_openGroup_121 : decode prog_10_method_13_code 121 = .ok (.aload_n 0, 1) := by decide +kernel
theorem d_m_openGroup_122 : decode prog_10_method_13_code 122 = .ok (.getfield 25, 3) := by decide +kernel
theorem d_m_openGroup_125 : decode prog_10_method_13_code 125 = .ok (.iload_n 2, 1) := by decide +kernel
theorem d_m_openGroup_126 : decode prog_10_method_13_code 126 = .ok (.iload 4, 2) := by decide +kernel
theorem d_m_openGroup_128 : decode prog_10_method_13_code 128 = .ok (.iadd, 1) := by decide +kernel
theorem d_m_openGroup_129 : decode prog_10_method_13_code 129 = .ok (.laload, 1) := by decide +kernel
theorem d_m_openGroup_130 : decode prog_10_method_13_code 130 = .ok (.aload_n 0, 1) := by decide +kernel
theorem d_m_openGroup_131 : decode prog_10_method_13_code 131 = .ok (.getfield 29, 3) := by decide +kernel
theorem d_m_openGroup_134 : decode prog_10_method_13_code 134 = .ok (.iconst 2, 1) := by decide +kernel
theorem d_m_openGroup_135 : decode prog_10_method_13_code 135 = .ok (.laload, 1) := by decide +kernel
theorem d_m_openGroup_136 : decode prog_10_method_13_code 136 = .ok (.lmul, 1) := by decide +kernel
theorem d_m_openGroup_137 : decode prog_10_method_13_code 137 = .ok (.aload_n 0, 1) := by decide +kernel
theorem d_m_openGroup_138 : decode prog_10_method_13_code 138 = .ok (.getfield 25, 3) := by decide +kernel
theorem d_m_openGroup_141 : decode prog_10_method_13_code 141 = .ok (.iload_n 2, 1) := by decide +kernel
theorem d_m_openGroup_142 : decode prog_10_method_13_code 142 = .ok (.iconst 2, 1) := by decide +kernel
theorem d_m_openGroup_143 : decode prog_10_method_13_code 143 = .ok (.iadd, 1) := by decide +kernel
theorem d_m_openGroup_144 : decode prog_10_method_13_code 144 = .ok (.iload 4, 2) := by decide +kernel
theorem d_m_openGroup_146 : decode prog_10_method_13_code 146 = .ok (.iadd, 1) := by decide +kernel
theorem d_m_openGroup_147 : decode prog_10_method_13_code 147 = .ok (.laload, 1) := by decide +kernel
theorem d_m_openGroup_148 : decode prog_10_method_13_code 148 = .ok (.aload_n 0, 1) := by decide +kernel
theorem d_m_openGroup_149 : decode prog_10_method_13_code 149 = .ok (.getfield 29, 3) := by decide +kernel
theorem d_m_openGroup_152 : decode prog_10_method_13_code 152 = .ok (.iconst 3, 1) := by decide +kernel
theorem d_m_openGroup_153 : decode prog_10_method_13_code 153 = .ok (.laload, 1) := by decide +kernel
theorem d_m_openGroup_154 : decode prog_10_method_13_code 154 = .ok (.lmul, 1) := by decide +kernel
theorem d_m_openGroup_155 : decode prog_10_method_13_code 155 = .ok (.ladd, 1) := by decide +kernel
theorem d_m_openGroup_156 : decode prog_10_method_13_code 156 = .ok (.ldc2_w 108, 3) := by decide +kernel
theorem d_m_openGroup_159 : decode prog_10_method_13_code 159 = .ok (.invokestatic 110, 3) := by decide +kernel
theorem d_m_openGroup_162 : decode prog_10_method_13_code 162 = .ok (.lastore, 1) := by decide +kernel
theorem d_m_openGroup_163 : decode prog_10_method_13_code 163 = .ok (.aload_n 0, 1) := by decide +kernel
theorem d_m_openGroup_164 : decode prog_10_method_13_code 164 = .ok (.getfield 25, 3) := by decide +kernel
theorem d_m_openGroup_167 : decode prog_10_method_13_code 167 = .ok (.iload_n 3, 1) := by decide +kernel
theorem d_m_openGroup_168 : decode prog_10_method_13_code 168 = .ok (.iconst 4, 1) := by decide +kernel
theorem d_m_openGroup_169 : decode prog_10_method_13_code 169 = .ok (.iadd, 1) := by decide +kernel
theorem d_m_openGroup_170 : decode prog_10_method_13_code 170 = .ok (.iload 4, 2) := by decide +kernel
theorem d_m_openGroup_172 : decode prog_10_method_13_code 172 = .ok (.iadd, 1) := by decide +kernel
theorem d_m_openGroup_173 : decode prog_10_method_13_code 173 = .ok (.aload_n 0, 1) := by decide +kernel
theorem d_m_openGroup_174 : decode prog_10_method_13_code 174 = .ok (.getfield 25, 3) := by decide +kernel
theorem d_m_openGroup_177 : decode prog_10_method_13_code 177 = .ok (.iload_n 2, 1) := by decide +kernel
theorem d_m_openGroup_178 : decode prog_10_method_13_code 178 = .ok (.iload 4, 2) := by decide +kernel
theorem d_m_openGroup_180 : decode prog_10_method_13_code 180 = .ok (.iadd, 1) := by decide +kernel
theorem d_m_openGroup_181 : decode prog_10_method_13_code 181 = .ok (.laload, 1) := by decide +kernel
theorem d_m_openGroup_182 : decode prog_10_method_13_code 182 = .ok (.aload_n 0, 1) := by decide +kernel
theorem d_m_openGroup_183 : decode prog_10_method_13_code 183 = .ok (.getfield 29, 3) := by decide +kernel
theorem d_m_openGroup_186 : decode prog_10_method_13_code 186 = .ok (.iconst 4, 1) := by decide +kernel
theorem d_m_openGroup_187 : decode prog_10_method_13_code 187 = .ok (.laload, 1) := by decide +kernel
theorem d_m_openGroup_188 : decode prog_10_method_13_code 188 = .ok (.lmul, 1) := by decide +kernel
theorem d_m_openGroup_189 : decode prog_10_method_13_code 189 = .ok (.aload_n 0, 1) := by decide +kernel
theorem d_m_openGroup_190 : decode prog_10_method_13_code 190 = .ok (.getfield 25, 3) := by decide +kernel
theorem d_m_openGroup_193 : decode prog_10_method_13_code 193 = .ok (.iload_n 2, 1) := by decide +kernel
theorem d_m_openGroup_194 : decode prog_10_method_13_code 194 = .ok (.iconst 2, 1) := by decide +kernel
theorem d_m_openGroup_195 : decode prog_10_method_13_code 195 = .ok (.iadd, 1) := by decide +kernel
theorem d_m_openGroup_196 : decode prog_10_method_13_code 196 = .ok (.iload 4, 2) := by decide +kernel
theorem d_m_openGroup_198 : decode prog_10_method_13_code 198 = .ok (.iadd, 1) := by decide +kernel
theorem d_m_openGroup_199 : decode prog_10_method_13_code 199 = .ok (.laload, 1) := by decide +kernel
theorem d_m_openGroup_200 : decode prog_10_method_13_code 200 = .ok (.aload_n 0, 1) := by decide +kernel
theorem d_m_openGroup_201 : decode prog_10_method_13_code 201 = .ok (.getfield 29, 3) := by decide +kernel
theorem d_m_openGroup_204 : decode prog_10_method_13_code 204 = .ok (.iconst 5, 1) := by decide +kernel
theorem d_m_openGroup_205 : decode prog_10_method_13_code 205 = .ok (.laload, 1) := by decide +kernel
theorem d_m_openGroup_206 : decode prog_10_method_13_code 206 = .ok (.lmul, 1) := by decide +kernel
theorem d_m_openGroup_207 : decode prog_10_method_13_code 207 = .ok (.ladd, 1) := by decide +kernel
theorem d_m_openGroup_208 : decode prog_10_method_13_code 208 = .ok (.ldc2_w 108, 3) := by decide +kernel
theorem d_m_openGroup_211 : decode prog_10_method_13_code 211 = .ok (.invokestatic 110, 3) := by decide +kernel
theorem d_m_openGroup_214 : decode prog_10_method_13_code 214 = .ok (.aload_n 0, 1) := by decide +kernel
theorem d_m_openGroup_215 : decode prog_10_method_13_code 215 = .ok (.getfield 25, 3) := by decide +kernel
theorem d_m_openGroup_218 : decode prog_10_method_13_code 218 = .ok (.iload_n 2, 1) := by decide +kernel
theorem d_m_openGroup_219 : decode prog_10_method_13_code 219 = .ok (.iconst 4, 1) := by decide +kernel
theorem d_m_openGroup_220 : decode prog_10_method_13_code 220 = .ok (.iadd, 1) := by decide +kernel
theorem d_m_openGroup_221 : decode prog_10_method_13_code 221 = .ok (.iload 4, 2) := by decide +kernel
theorem d_m_openGroup_223 : decode prog_10_method_13_code 223 = .ok (.iadd, 1) := by decide +kernel
theorem d_m_openGroup_224 : decode prog_10_method_13_code 224 = .ok (.laload, 1) := by decide +kernel
theorem d_m_openGroup_225 : decode prog_10_method_13_code 225 = .ok (.ladd, 1) := by decide +kernel
theorem d_m_openGroup_226 : decode prog_10_method_13_code 226 = .ok (.lastore, 1) := by decide +kernel
theorem d_m_openGroup_227 : decode prog_10_method_13_code 227 = .ok (.iinc 4 1, 3) := by decide +kernel
theorem d_m_openGroup_230 : decode prog_10_method_13_code 230 = .ok (.goto (-175), 3) := by decide +kernel
theorem d_m_openGroup_233 : decode prog_10_method_13_code 233 = .ok (.iload_n 3, 1) := by decide +kernel
theorem d_m_openGroup_234 : decode prog_10_method_13_code 234 = .ok (.istore 4, 2) := by decide +kernel
theorem d_m_openGroup_236 : decode prog_10_method_13_code 236 = .ok (.iload 4, 2) := by decide +kernel
theorem d_m_openGroup_238 : decode prog_10_method_13_code 238 = .ok (.iload_n 3, 1) := by decide +kernel
theorem d_m_openGroup_239 : decode prog_10_method_13_code 239 = .ok (.bipush 6, 2) := by decide +kernel
theorem d_m_openGroup_241 : decode prog_10_method_13_code 241 = .ok (.iadd, 1) := by decide +kernel
theorem d_m_openGroup_242 : decode prog_10_method_13_code 242 = .ok (.if_icmp .ge 40, 3) := by decide +kernel
theorem d_m_openGroup_245 : decode prog_10_method_13_code 245 = .ok (.aload_n 0, 1) := by decide +kernel
theorem d_m_openGroup_246 : decode prog_10_method_13_code 246 = .ok (.aload_n 0, 1) := by decide +kernel
theorem d_m_openGroup_247 : decode prog_10_method_13_code 247 = .ok (.getfield 25, 3) := by decide +kernel
theorem d_m_openGroup_250 : decode prog_10_method_13_code 250 = .ok (.iload 4, 2) := by decide +kernel
theorem d_m_openGroup_252 : decode prog_10_method_13_code 252 = .ok (.laload, 1) := by decide +kernel
theorem d_m_openGroup_253 : decode prog_10_method_13_code 253 = .ok (.ldc2_w 117, 3) := by decide +kernel
theorem d_m_openGroup_256 : decode prog_10_method_13_code 256 = .ok (.ldc2_w 119, 3) := by decide +kernel
theorem d_m_openGroup_259 : decode prog_10_method_13_code 259 = .ok (.invokestatic 62, 3) := by decide +kernel
theorem d_m_openGroup_262 : decode prog_10_method_13_code 262 = .ok (.ifCond .eq 10, 3) := by decide +kernel
theorem d_m_openGroup_265 : decode prog_10_method_13_code 265 = .ok (.aload_n 0, 1) := by decide +kernel
theorem d_m_openGroup_266 : decode prog_10_method_13_code 266 = .ok (.getfield 97, 3) := by decide +kernel
theorem d_m_openGroup_269 : decode prog_10_method_13_code 269 = .ok (.goto 4, 3) := by decide +kernel
theorem d_m_openGroup_272 : decode prog_10_method_13_code 272 = .ok (.iload_n 1, 1) := by decide +kernel
theorem d_m_openGroup_273 : decode prog_10_method_13_code 273 = .ok (.putfield 97, 3) := by decide +kernel
theorem d_m_openGroup_276 : decode prog_10_method_13_code 276 = .ok (.iinc 4 1, 3) := by decide +kernel
theorem d_m_openGroup_279 : decode prog_10_method_13_code 279 = .ok (.goto (-43), 3) := by decide +kernel
theorem d_m_openGroup_282 : decode prog_10_method_13_code 282 = .ok (.aload_n 0, 1) := by decide +kernel
theorem d_m_openGroup_283 : decode prog_10_method_13_code 283 = .ok (.dup, 1) := by decide +kernel
theorem d_m_openGroup_284 : decode prog_10_method_13_code 284 = .ok (.getfield 124, 3) := by decide +kernel
theorem d_m_openGroup_287 : decode prog_10_method_13_code 287 = .ok (.iconst 1, 1) := by decide +kernel
theorem d_m_openGroup_288 : decode prog_10_method_13_code 288 = .ok (.iadd, 1) := by decide +kernel
theorem d_m_openGroup_289 : decode prog_10_method_13_code 289 = .ok (.putfield 124, 3) := by decide +kernel
theorem d_m_openGroup_292 : decode prog_10_method_13_code 292 = .ok (.aload_n 0, 1) := by decide +kernel
theorem d_m_openGroup_293 : decode prog_10_method_13_code 293 = .ok (.iconst 1, 1) := by decide +kernel
theorem d_m_openGroup_294 : decode prog_10_method_13_code 294 = .ok (.putfield 131, 3) := by decide +kernel
theorem d_m_openGroup_297 : decode prog_10_method_13_code 297 = .ok (.return_, 1) := by decide +kernel
theorem d_m_point_0 : decode prog_10_method_14_code 0 = .ok (.bipush 6, 2) := by decide +kernel
theorem d_m_point_2 : decode prog_10_method_14_code 2 = .ok (.aload_n 0, 1) := by decide +kernel
theorem d_m_point_3 : decode prog_10_method_14_code 3 = .ok (.getfield 124, 3) := by decide +kernel
theorem d_m_point_6 : decode prog_10_method_14_code 6 = .ok (.imul, 1) := by decide +kernel
theorem d_m_point_7 : decode prog_10_method_14_code 7 = .ok (.istore 7, 2) := by decide +kernel
theorem d_m_point_9 : decode prog_10_method_14_code 9 = .ok (.aload_n 0, 1) := by decide +kernel
theorem d_m_point_10 : decode prog_10_method_14_code 10 = .ok (.getfield 25, 3) := by decide +kernel
theorem d_m_point_13 : decode prog_10_method_14_code 13 = .ok (.iload 7, 2) := by decide +kernel
theorem d_m_point_15 : decode prog_10_method_14_code 15 = .ok (.laload, 1) := by decide +kernel
theorem d_m_point_16 : decode prog_10_method_14_code 16 = .ok (.lload_n 2, 1) := by decide +kernel
theorem d_m_point_17 : decode prog_10_method_14_code 17 = .ok (.lmul, 1) := by decide +kernel
theorem d_m_point_18 : decode prog_10_method_14_code 18 = .ok (.aload_n 0, 1) := by decide +kernel
theorem d_m_point_19 : decode prog_10_method_14_code 19 = .ok (.getfield 25, 3) := by decide +kernel
theorem d_m_point_22 : decode prog_10_method_14_code 22 = .ok (.iload 7, 2) := by decide +kernel
theorem d_m_point_24 : decode prog_10_method_14_code 24 = .ok (.iconst 2, 1) := by decide +kernel
theorem d_m_point_25 : decode prog_10_method_14_code 25 = .ok (.iadd, 1) := by decide +kernel
theorem d_m_point_26 : decode prog_10_method_14_code 26 = .ok (.laload, 1) := by decide +kernel
theorem d_m_point_27 : decode prog_10_method_14_code 27 = .ok (.lload 4, 2) := by decide +kernel
theorem d_m_point_29 : decode prog_10_method_14_code 29 = .ok (.lmul, 1) := by decide +kernel
theorem d_m_point_30 : decode prog_10_method_14_code 30 = .ok (.ladd, 1) := by decide +kernel
theorem d_m_point_31 : decode prog_10_method_14_code 31 = .ok (.ldc2_w 108, 3) := by decide +kernel
theorem d_m_point_34 : decode prog_10_method_14_code 34 = .ok (.invokestatic 110, 3) := by decide +kernel
theorem d_m_point_37 : decode prog_10_method_14_code 37 = .ok (.aload_n 0, 1) := by decide +kernel
theorem d_m_point_38 : decode prog_10_method_14_code 38 = .ok (.getfield 25, 3) := by decide +kernel
theorem d_m_point_41 : decode prog_10_method_14_code 41 = .ok (.iload 7, 2) := by decide +kernel
theorem d_m_point_43 : decode prog_10_method_14_code 43 = .ok (.iconst 4, 1) := by decide +kernel
theorem d_m_point_44 : decode prog_10_method_14_code 44 = .ok (.iadd, 1) := by decide +kernel
theorem d_m_point_45 : decode prog_10_method_14_code 45 = .ok (.laload, 1) := by decide +kernel
theorem d_m_point_46 : decode prog_10_method_14_code 46 = .ok (.ladd, 1) := by decide +kernel
theorem d_m_point_47 : decode prog_10_method_14_code 47 = .ok (.lstore 8, 2) := by decide +kernel
theorem d_m_point_49 : decode prog_10_method_14_code 49 = .ok (.aload_n 0, 1) := by decide +kernel
theorem d_m_point_50 : decode prog_10_method_14_code 50 = .ok (.getfield 25, 3) := by decide +kernel
theorem d_m_point_53 : decode prog_10_method_14_code 53 = .ok (.iload 7, 2) := by decide +kernel
theorem d_m_point_55 : decode prog_10_method_14_code 55 = .ok (.iconst 1, 1) := by decide +kernel
theorem d_m_point_56 : decode prog_10_method_14_code 56 = .ok (.iadd, 1) := by decide +kernel
theorem d_m_point_57 : decode prog_10_method_14_code 57 = .ok (.laload, 1) := by decide +kernel
theorem d_m_point_58 : decode prog_10_method_14_code 58 = .ok (.lload_n 2, 1) := by decide +kernel
theorem d_m_point_59 : decode prog_10_method_14_code 59 = .ok (.lmul, 1) := by decide +kernel
theorem d_m_point_60 : decode prog_10_method_14_code 60 = .ok (.aload_n 0, 1) := by decide +kernel
theorem d_m_point_61 : decode prog_10_method_14_code 61 = .ok (.getfield 25, 3) := by decide +kernel
theorem d_m_point_64 : decode prog_10_method_14_code 64 = .ok (.iload 7, 2) := by decide +kernel
theorem d_m_point_66 : decode prog_10_method_14_code 66 = .ok (.iconst 3, 1) := by decide +kernel
theorem d_m_point_67 : decode prog_10_method_14_code 67 = .ok (.iadd, 1) := by decide +kernel
theorem d_m_point_68 : decode prog_10_method_14_code 68 = .ok (.laload, 1) := by decide +kernel
theorem d_m_point_69 : decode prog_10_method_14_code 69 = .ok (.lload 4, 2) := by decide +kernel
theorem d_m_point_71 : decode prog_10_method_14_code 71 = .ok (.lmul, 1) := by decide +kernel
theorem d_m_point_72 : decode prog_10_method_14_code 72 = .ok (.ladd, 1) := by decide +kernel
theorem d_m_point_73 : decode prog_10_method_14_code 73 = .ok (.ldc2_w 108, 3) := by decide +kernel
theorem d_m_point_76 : decode prog_10_method_14_code 76 = .ok (.invokestatic 110, 3) := by decide +kernel
theorem d_m_point_79 : decode prog_10_method_14_code 79 = .ok (.aload_n 0, 1) := by decide +kernel
theorem d_m_point_80 : decode prog_10_method_14_code 80 = .ok (.getfield 25, 3) := by decide +kernel
theorem d_m_point_83 : decode prog_10_method_14_code 83 = .ok (.iload 7, 2) := by decide +kernel
theorem d_m_point_85 : decode prog_10_method_14_code 85 = .ok (.iconst 5, 1) := by decide +kernel
theorem d_m_point_86 : decode prog_10_method_14_code 86 = .ok (.iadd, 1) := by decide +kernel
theorem d_m_point_87 : decode prog_10_method_14_code 87 = .ok (.laload, 1) := by decide +kernel
theorem d_m_point_88 : decode prog_10_method_14_code 88 = .ok (.ladd, 1) := by decide +kernel
theorem d_m_point_89 : decode prog_10_method_14_code 89 = .ok (.lstore 10, 2) := by decide +kernel
theorem d_m_point_91 : decode prog_10_method_14_code 91 = .ok (.lload 8, 2) := by decide +kernel
theorem d_m_point_93 : decode prog_10_method_14_code 93 = .ok (.ldc2_w 117, 3) := by decide +kernel
theorem d_m_point_96 : decode prog_10_method_14_code 96 = .ok (.ldc2_w 119, 3) := by decide +kernel
theorem d_m_point_99 : decode prog_10_method_14_code 99 = .ok (.invokestatic 62, 3) := by decide +kernel
theorem d_m_point_102 : decode prog_10_method_14_code 102 = .ok (.ifCond .eq 17, 3) := by decide +kernel
theorem d_m_point_105 : decode prog_10_method_14_code 105 = .ok (.lload 10, 2) := by decide +kernel
theorem d_m_point_107 : decode prog_10_method_14_code 107 = .ok (.ldc2_w 117, 3) := by decide +kernel
theorem d_m_point_110 : decode prog_10_method_14_code 110 = .ok (.ldc2_w 119, 3) := by decide +kernel
theorem d_m_point_113 : decode prog_10_method_14_code 113 = .ok (.invokestatic 62, 3) := by decide +kernel
theorem d_m_point_116 : decode prog_10_method_14_code 116 = .ok (.ifCond .ne 10, 3) := by decide +kernel
theorem d_m_point_119 : decode prog_10_method_14_code 119 = .ok (.aload_n 0, 1) := by decide +kernel
theorem d_m_point_120 : decode prog_10_method_14_code 120 = .ok (.iload 6, 2) := by decide +kernel
theorem d_m_point_122 : decode prog_10_method_14_code 122 = .ok (.putfield 97, 3) := by decide +kernel
theorem d_m_point_125 : decode prog_10_method_14_code 125 = .ok (.return_, 1) := by decide +kernel
theorem d_m_point_126 : decode prog_10_method_14_code 126 = .ok (.aload_n 0, 1) := by decide +kernel
theorem d_m_point_127 : decode prog_10_method_14_code 127 = .ok (.getfield 22, 3) := by decide +kernel
theorem d_m_point_130 : decode prog_10_method_14_code 130 = .ok (.bipush 6, 2) := by decide +kernel
theorem d_m_point_132 : decode prog_10_method_14_code 132 = .ok (.aload_n 0, 1) := by decide +kernel
theorem d_m_point_133 : decode prog_10_method_14_code 133 = .ok (.getfield 135, 3) := by decide +kernel
theorem d_m_point_136 : decode prog_10_method_14_code 136 = .ok (.imul, 1) := by decide +kernel
theorem d_m_point_137 : decode prog_10_method_14_code 137 = .ok (.iconst 2, 1) := by decide +kernel
theorem d_m_point_138 : decode prog_10_method_14_code 138 = .ok (.iload_n 1, 1) := by decide +kernel
theorem d_m_point_139 : decode prog_10_method_14_code 139 = .ok (.imul, 1) := by decide +kernel
theorem d_m_point_140 : decode prog_10_method_14_code 140 = .ok (.iadd, 1) := by decide +kernel
theorem d_m_point_141 : decode prog_10_method_14_code 141 = .ok (.lload 8, 2) := by decide +kernel
theorem d_m_point_143 : decode prog_10_method_14_code 143 = .ok (.l2i, 1) := by decide +kernel
theorem d_m_point_144 : decode prog_10_method_14_code 144 = .ok (.iastore, 1) := by decide +kernel
theorem d_m_point_145 : decode prog_10_method_14_code 145 = .ok (.aload_n 0, 1) := by decide +kernel
theorem d_m_point_146 : decode prog_10_method_14_code 146 = .ok (.getfield 22, 3) := by decide +kernel
theorem d_m_point_149 : decode prog_10_method_14_code 149 = .ok (.bipush 6, 2) := by decide +kernel
theorem d_m_point_151 : decode prog_10_method_14_code 151 = .ok (.aload_n 0, 1) := by decide +kernel
theorem d_m_point_152 : decode prog_10_method_14_code 152 = .ok (.getfield 135, 3) := by decide +kernel
theorem d_m_point_155 : decode prog_10_method_14_code 155 = .ok (.imul, 1) := by decide +kernel
theorem d_m_point_156 : decode prog_10_method_14_code 156 = .ok (.iconst 2, 1) := by decide +kernel
theorem d_m_point_157 : decode prog_10_method_14_code 157 = .ok (.iload_n 1, 1) := by decide +kernel
theorem d_m_point_158 : decode prog_10_method_14_code 158 = .ok (.imul, 1) := by decide +kernel
theorem d_m_point_159 : decode prog_10_method_14_code 159 = .ok (.iadd, 1) := by decide +kernel
theorem d_m_point_160 : decode prog_10_method_14_code 160 = .ok (.iconst 1, 1) := by decide +kernel
theorem d_m_point_161 : decode prog_10_method_14_code 161 = .ok (.iadd, 1) := by decide +kernel
theorem d_m_point_162 : decode prog_10_method_14_code 162 = .ok (.lload 10, 2) := by decide +kernel
theorem d_m_point_164 : decode prog_10_method_14_code 164 = .ok (.l2i, 1) := by decide +kernel
theorem d_m_point_165 : decode prog_10_method_14_code 165 = .ok (.iastore, 1) := by decide +kernel
theorem d_m_point_166 : decode prog_10_method_14_code 166 = .ok (.return_, 1) := by decide +kernel
theorem d_m_draw_0 : decode prog_10_method_15_code 0 = .ok (.aload_n 0, 1) := by decide +kernel
theorem d_m_draw_1 : decode prog_10_method_15_code 1 = .ok (.getfield 135, 3) := by decide +kernel
theorem d_m_draw_4 : decode prog_10_method_15_code 4 = .ok (.sipush 150, 3) := by decide +kernel
theorem d_m_draw_7 : decode prog_10_method_15_code 7 = .ok (.if_icmp .ne 10, 3) := by decide +kernel
theorem d_m_draw_10 : decode prog_10_method_15_code 10 = .ok (.aload_n 0, 1) := by decide +kernel
theorem d_m_draw_11 : decode prog_10_method_15_code 11 = .ok (.iload 14, 2) := by decide +kernel
theorem d_m_draw_13 : decode prog_10_method_15_code 13 = .ok (.putfield 97, 3) := by decide +kernel
theorem d_m_draw_16 : decode prog_10_method_15_code 16 = .ok (.return_, 1) := by decide +kernel
theorem d_m_draw_17 : decode prog_10_method_15_code 17 = .ok (.iload_n 1, 1) := by decide +kernel
theorem d_m_draw_18 : decode prog_10_method_15_code 18 = .ok (.iconst 2, 1) := by decide +kernel
theorem d_m_draw_19 : decode prog_10_method_15_code 19 = .ok (.if_icmp .ne 38, 3) := by decide +kernel
theorem d_m_draw_22 : decode prog_10_method_15_code 22 = .ok (.aload_n 0, 1) := by decide +kernel
theorem d_m_draw_23 : decode prog_10_method_15_code 23 = .ok (.iconst 0, 1) := by decide +kernel
theorem d_m_draw_24 : decode prog_10_method_15_code 24 = .ok (.lload_n 2, 1) := by decide +kernel
theorem d_m_draw_25 : decode prog_10_method_15_code 25 = .ok (.lload 4, 2) := by decide +kernel
theorem d_m_draw_27 : decode prog_10_method_15_code 27 = .ok (.iload 14, 2) := by decide +kernel
theorem d_m_draw_29 : decode prog_10_method_15_code 29 = .ok (.invokevirtual 138, 3) := by decide +kernel
theorem d_m_draw_32 : decode prog_10_method_15_code 32 = .ok (.aload_n 0, 1) := by decide +kernel
theorem d_m_draw_33 : decode prog_10_method_15_code 33 = .ok (.iconst 1, 1) := by decide +kernel
theorem d_m_draw_34 : decode prog_10_method_15_code 34 = .ok (.lload 6, 2) := by decide +kernel
theorem d_m_draw_36 : decode prog_10_method_15_code 36 = .ok (.lload 8, 2) := by decide +kernel
theorem d_m_draw_38 : decode prog_10_method_15_code 38 = .ok (.iload 14, 2) := by decide +kernel
theorem d_m_draw_40 : decode prog_10_method_15_code 40 = .ok (.invokevirtual 138, 3) := by decide +kernel
theorem d_m_draw_43 : decode prog_10_method_15_code 43 = .ok (.aload_n 0, 1) := by decide +kernel
theorem d_m_draw_44 : decode prog_10_method_15_code 44 = .ok (.iconst 2, 1) := by decide +kernel
theorem d_m_draw_45 : decode prog_10_method_15_code 45 = .ok (.lload 10, 2) := by decide +kernel
theorem d_m_draw_47 : decode prog_10_method_15_code 47 = .ok (.lload 12, 2) := by decide +kernel
theorem d_m_draw_49 : decode prog_10_method_15_code 49 = .ok (.iload 14, 2) := by decide +kernel
theorem d_m_draw_51 : decode prog_10_method_15_code 51 = .ok (.invokevirtual 138, 3) := by decide +kernel
theorem d_m_draw_54 : decode prog_10_method_15_code 54 = .ok (.goto 19, 3) := by decide +kernel
theorem d_m_draw_57 : decode prog_10_method_15_code 57 = .ok (.iload_n 1, 1) := by decide +kernel
theorem d_m_draw_58 : decode prog_10_method_15_code 58 = .ok (.iconst 3, 1) := by decide +kernel
theorem d_m_draw_59 : decode prog_10_method_15_code 59 = .ok (.if_icmp .eq 14, 3) := by decide +kernel
theorem d_m_draw_62 : decode prog_10_method_15_code 62 = .ok (.aload_n 0, 1) := by decide +kernel
theorem d_m_draw_63 : decode prog_10_method_15_code 63 = .ok (.iconst 0, 1) := by decide +kernel
theorem d_m_draw_64 : decode prog_10_method_15_code 64 = .ok (.lload 10, 2) := by decide +kernel
theorem d_m_draw_66 : decode prog_10_method_15_code 66 = .ok (.lload 12, 2) := by decide +kernel
theorem d_m_draw_68 : decode prog_10_method_15_code 68 = .ok (.iload 14, 2) := by decide +kernel
theorem d_m_draw_70 : decode prog_10_method_15_code 70 = .ok (.invokevirtual 138, 3) := by decide +kernel
theorem d_m_draw_73 : decode prog_10_method_15_code 73 = .ok (.aload_n 0, 1) := by decide +kernel
theorem d_m_draw_74 : decode prog_10_method_15_code 74 = .ok (.getfield 19, 3) := by decide +kernel
theorem d_m_draw_77 : decode prog_10_method_15_code 77 = .ok (.aload_n 0, 1) := by decide +kernel
theorem d_m_draw_78 : decode prog_10_method_15_code 78 = .ok (.getfield 135, 3) := by decide +kernel
theorem d_m_draw_81 : decode prog_10_method_15_code 81 = .ok (.iload_n 1, 1) := by decide +kernel
theorem d_m_draw_82 : decode prog_10_method_15_code 82 = .ok (.iastore, 1) := by decide +kernel
theorem d_m_draw_83 : decode prog_10_method_15_code 83 = .ok (.aload_n 0, 1) := by decide +kernel
theorem d_m_draw_84 : decode prog_10_method_15_code 84 = .ok (.dup, 1) := by decide +kernel
theorem d_m_draw_85 : decode prog_10_method_15_code 85 = .ok (.getfield 135, 3) := by decide +kernel
theorem d_m_draw_88 : decode prog_10_method_15_code 88 = .ok (.iconst 1, 1) := by decide +kernel
theorem d_m_draw_89 : decode prog_10_method_15_code 89 = .ok (.iadd, 1) := by decide +kernel
theorem d_m_draw_90 : decode prog_10_method_15_code 90 = .ok (.putfield 135, 3) := by decide +kernel
theorem d_m_draw_93 : decode prog_10_method_15_code 93 = .ok (.aload_n 0, 1) := by decide +kernel
theorem d_m_draw_94 : decode prog_10_method_15_code 94 = .ok (.lload 10, 2) := by decide +kernel
theorem d_m_draw_96 : decode prog_10_method_15_code 96 = .ok (.putfield 142, 3) := by decide +kernel
theorem d_m_draw_99 : decode prog_10_method_15_code 99 = .ok (.aload_n 0, 1) := by decide +kernel
theorem d_m_draw_100 : decode prog_10_method_15_code 100 = .ok (.lload 12, 2) := by decide +kernel
theorem d_m_draw_102 : decode prog_10_method_15_code 102 = .ok (.putfield 145, 3) := by decide +kernel
theorem d_m_draw_105 : decode prog_10_method_15_code 105 = .ok (.return_, 1) := by decide +kernel
theorem d_m_needs_0 : decode prog_10_method_16_code 0 = .ok (.iload_n 0, 1) := by decide +kernel
theorem d_m_needs_1 : decode prog_10_method_16_code 1 = .ok (.tableswitch 122 99 122 #[117, 122, 122, 122, 122, 111, 122, 122, 122, 113, 113, 122, 122, 122, 115, 122, 115, 113, 122, 111, 122, 122, 122, 120], 111) := by decide +kernel
theorem d_m_needs_112 : decode prog_10_method_16_code 112 = .ok (.iconst 1, 1) := by decide +kernel
theorem d_m_needs_113 : decode prog_10_method_16_code 113 = .ok (.ireturn, 1) := by decide +kernel
theorem d_m_needs_114 : decode prog_10_method_16_code 114 = .ok (.iconst 2, 1) := by decide +kernel
theorem d_m_needs_115 : decode prog_10_method_16_code 115 = .ok (.ireturn, 1) := by decide +kernel
theorem d_m_needs_116 : decode prog_10_method_16_code 116 = .ok (.iconst 4, 1) := by decide +kernel
theorem d_m_needs_117 : decode prog_10_method_16_code 117 = .ok (.ireturn, 1) := by decide +kernel
theorem d_m_needs_118 : decode prog_10_method_16_code 118 = .ok (.bipush 6, 2) := by decide +kernel
theorem d_m_needs_120 : decode prog_10_method_16_code 120 = .ok (.ireturn, 1) := by decide +kernel
theorem d_m_needs_121 : decode prog_10_method_16_code 121 = .ok (.iconst 0, 1) := by decide +kernel
theorem d_m_needs_122 : decode prog_10_method_16_code 122 = .ok (.ireturn, 1) := by decide +kernel
theorem d_m_needs_123 : decode prog_10_method_16_code 123 = .ok (.iconst (-1), 1) := by decide +kernel
theorem d_m_needs_124 : decode prog_10_method_16_code 124 = .ok (.ireturn, 1) := by decide +kernel
theorem d_m_command4_0 : decode prog_10_method_17_code 0 = .ok (.aload_n 0, 1) := by decide +kernel
theorem d_m_command4_1 : decode prog_10_method_17_code 1 = .ok (.getfield 148, 3) := by decide +kernel
theorem d_m_command4_4 : decode prog_10_method_17_code 4 = .ok (.bipush 99, 2) := by decide +kernel
theorem d_m_command4_6 : decode prog_10_method_17_code 6 = .ok (.if_icmp .eq 12, 3) := by decide +kernel
theorem d_m_command4_9 : decode prog_10_method_17_code 9 = .ok (.aload_n 0, 1) := by decide +kernel
theorem d_m_command4_10 : decode prog_10_method_17_code 10 = .ok (.getfield 148, 3) := by decide +kernel
theorem d_m_command4_13 : decode prog_10_method_17_code 13 = .ok (.bipush 115, 2) := by decide +kernel
theorem d_m_command4_15 : decode prog_10_method_17_code 15 = .ok (.if_icmp .ne 7, 3) := by decide +kernel
theorem d_m_command4_18 : decode prog_10_method_17_code 18 = .ok (.iconst 1, 1) := by decide +kernel
theorem d_m_command4_19 : decode prog_10_method_17_code 19 = .ok (.goto 4, 3) := by decide +kernel
theorem d_m_command4_22 : decode prog_10_method_17_code 22 = .ok (.iconst 0, 1) := by decide +kernel
theorem d_m_command4_23 : decode prog_10_method_17_code 23 = .ok (.istore 7, 2) := by decide +kernel
theorem d_m_command4_25 : decode prog_10_method_17_code 25 = .ok (.aload_n 0, 1) := by decide +kernel
theorem d_m_command4_26 : decode prog_10_method_17_code 26 = .ok (.getfield 148, 3) := by decide +kernel
theorem d_m_command4_29 : decode prog_10_method_17_code 29 = .ok (.bipush 113, 2) := by decide +kernel
theorem d_m_command4_31 : decode prog_10_method_17_code 31 = .ok (.if_icmp .eq 12, 3) := by decide +kernel
theorem d_m_command4_34 : decode prog_10_method_17_code 34 = .ok (.aload_n 0, 1) := by decide +kernel
theorem d_m_command4_35 : decode prog_10_method_17_code 35 = .ok (.getfield 148, 3) := by decide +kernel
theorem d_m_command4_38 : decode prog_10_method_17_code 38 = .ok (.bipush 116, 2) := by decide +kernel
theorem d_m_command4_40 : decode prog_10_method_17_code 40 = .ok (.if_icmp .ne 7, 3) := by decide +kernel
theorem d_m_command4_43 : decode prog_10_method_17_code 43 = .ok (.iconst 1, 1) := by decide +kernel
theorem d_m_command4_44 : decode prog_10_method_17_code 44 = .ok (.goto 4, 3) := by decide +kernel
theorem d_m_command4_47 : decode prog_10_method_17_code 47 = .ok (.iconst 0, 1) := by decide +kernel
theorem d_m_command4_48 : decode prog_10_method_17_code 48 = .ok (.istore 8, 2) := by decide +kernel
theorem d_m_command4_50 : decode prog_10_method_17_code 50 = .ok (.ldc2_w 54, 3) := by decide +kernel
theorem d_m_command4_53 : decode prog_10_method_17_code 53 = .ok (.aload_n 0, 1) := by decide +kernel
theorem d_m_command4_54 : decode prog_10_method_17_code 54 = .ok (.getfield 142, 3) := by decide +kernel
theorem d_m_command4_57 : decode prog_10_method_17_code 57 = .ok (.lmul, 1) := by decide +kernel
theorem d_m_command4_58 : decode prog_10_method_17_code 58 = .ok (.aload_n 0, 1) := by decide +kernel
theorem d_m_command4_59 : decode prog_10_method_17_code 59 = .ok (.getfield 151, 3) := by decide +kernel
theorem d_m_command4_62 : decode prog_10_method_17_code 62 = .ok (.lsub, 1) := by decide +kernel
theorem d_m_command4_63 : decode prog_10_method_17_code 63 = .ok (.lstore 9, 2) := by decide +kernel
theorem d_m_command4_65 : decode prog_10_method_17_code 65 = .ok (.ldc2_w 54, 3) := by decide +kernel
theorem d_m_command4_68 : decode prog_10_method_17_code 68 = .ok (.aload_n 0, 1) := by decide +kernel
theorem d_m_command4_69 : decode prog_10_method_17_code 69 = .ok (.getfield 145, 3) := by decide +kernel
theorem d_m_command4_72 : decode prog_10_method_17_code 72 = .ok (.lmul, 1) := by decide +kernel
theorem d_m_command4_73 : decode prog_10_method_17_code 73 = .ok (.aload_n 0, 1) := by decide +kernel
theorem d_m_command4_74 : decode prog_10_method_17_code 74 = .ok (.getfield 154, 3) := by decide +kernel
theorem d_m_command4_77 : decode prog_10_method_17_code 77 = .ok (.lsub, 1) := by decide +kernel
theorem d_m_command4_78 : decode prog_10_method_17_code 78 = .ok (.lstore 11, 2) := by decide +kernel
theorem d_m_command4_80 : decode prog_10_method_17_code 80 = .ok (.iload_n 1, 1) := by decide +kernel
theorem d_m_command4_81 : decode prog_10_method_17_code 81 = .ok (.invokestatic 157, 3) := by decide +kernel
theorem d_m_command4_84 : decode prog_10_method_17_code 84 = .ok (.istore 13, 2) := by decide +kernel
theorem d_m_command4_86 : decode prog_10_method_17_code 86 = .ok (.iload 13, 2) := by decide +kernel
theorem d_m_command4_88 : decode prog_10_method_17_code 88 = .ok (.iconst 2, 1) := by decide +kernel
theorem d_m_command4_89 : decode prog_10_method_17_code 89 = .ok (.if_icmp .ge 10, 3) := by decide +kernel
theorem d_m_command4_92 : decode prog_10_method_17_code 92 = .ok (.aload_n 0, 1) := by decide +kernel
theorem d_m_command4_93 : decode prog_10_method_17_code 93 = .ok (.getfield 142, 3) := by decide +kernel
theorem d_m_command4_96 : decode prog_10_method_17_code 96 = .ok (.goto 14, 3) := by decide +kernel
theorem d_m_command4_99 : decode prog_10_method_17_code 99 = .ok (.lload_n 2, 1) := by decide +kernel
theorem d_m_command4_100 : decode prog_10_method_17_code 100 = .ok (.aload_n 0, 1) := by decide +kernel
theorem d_m_command4_101 : decode prog_10_method_17_code 101 = .ok (.getfield 29, 3) := by decide +kernel
theorem d_m_command4_104 : decode prog_10_method_17_code 104 = .ok (.iload 13, 2) := by decide +kernel
theorem d_m_command4_106 : decode prog_10_method_17_code 106 = .ok (.iconst 2, 1) := by decide +kernel
theorem d_m_command4_107 : decode prog_10_method_17_code 107 = .ok (.isub, 1) := by decide +kernel
theorem d_m_command4_108 : decode prog_10_method_17_code 108 = .ok (.laload, 1) := by decide +kernel
theorem d_m_command4_109 : decode prog_10_method_17_code 109 = .ok (.ladd, 1) := by decide +kernel
theorem d_m_command4_110 : decode prog_10_method_17_code 110 = .ok (.lstore 14, 2) := by decide +kernel
theorem d_m_command4_112 : decode prog_10_method_17_code 112 = .ok (.iload 13, 2) := by decide +kernel
theorem d_m_command4_114 : decode prog_10_method_17_code 114 = .ok (.iconst 2, 1) := by decide +kernel
theorem d_m_command4_115 : decode prog_10_method_17_code 115 = .ok (.if_icmp .ge 10, 3) := by decide +kernel
theorem d_m_command4_118 : decode prog_10_method_17_code 118 = .ok (.aload_n 0, 1) := by decide +kernel
theorem d_m_command4_119 : decode prog_10_method_17_code 119 = .ok (.getfield 145, 3) := by decide +kernel
theorem d_m_command4_122 : decode prog_10_method_17_code 122 = .ok (.goto 15, 3) := by decide +kernel
theorem d_m_command4_125 : decode prog_10_method_17_code 125 = .ok (.lload 4, 2) := by decide +kernel
theorem d_m_command4_127 : decode prog_10_method_17_code 127 = .ok (.aload_n 0, 1) := by decide +kernel
theorem d_m_command4_128 : decode prog_10_method_17_code 128 = .ok (.getfield 29, 3) := by decide +kernel
theorem d_m_command4_131 : decode prog_10_method_17_code 131 = .ok (.iload 13, 2) := by decide +kernel
theorem d_m_command4_133 : decode prog_10_method_17_code 133 = .ok (.iconst 1, 1) := by decide +kernel
theorem d_m_command4_134 : decode prog_10_method_17_code 134 = .ok (.isub, 1) := by decide +kernel
theorem d_m_command4_135 : decode prog_10_method_17_code 135 = .ok (.laload, 1) := by decide +kernel
theorem d_m_command4_136 : decode prog_10_method_17_code 136 = .ok (.ladd, 1) := by decide +kernel
theorem d_m_command4_137 : decode prog_10_method_17_code 137 = .ok (.lstore 16, 2) := by decide +kernel
theorem d_m_command4_139 : decode prog_10_method_17_code 139 = .ok (.aload_n 0, 1) := by decide +kernel
theorem d_m_command4_140 : decode prog_10_method_17_code 140 = .ok (.getfield 142, 3) := by decide +kernel
theorem d_m_command4_143 : decode prog_10_method_17_code 143 = .ok (.lstore 18, 2) := by decide +kernel
theorem d_m_command4_145 : decode prog_10_method_17_code 145 = .ok (.aload_n 0, 1) := by decide +kernel
theorem d_m_command4_146 : decode prog_10_method_17_code 146 = .ok (.getfield 145, 3) := by decide +kernel
theorem d_m_command4_149 : decode prog_10_method_17_code 149 = .ok (.lstore 20, 2) := by decide +kernel
theorem d_m_command4_151 : decode prog_10_method_17_code 151 = .ok (.iload_n 1, 1) := by decide +kernel
theorem d_m_command4_152 : decode prog_10_method_17_code 152 = .ok (.bipush 109, 2) := by decide +kernel
theorem d_m_command4_154 : decode prog_10_method_17_code 154 = .ok (.if_icmp .ne 38, 3) := by decide +kernel
theorem d_m_command4_157 : decode prog_10_method_17_code 157 = .ok (.aload_n 0, 1) := by decide +kernel
theorem d_m_command4_158 : decode prog_10_method_17_code 158 = .ok (.iconst 0, 1) := by decide +kernel
theorem d_m_command4_159 : decode prog_10_method_17_code 159 = .ok (.lconst 0, 1) := by decide +kernel
theorem d_m_command4_160 : decode prog_10_method_17_code 160 = .ok (.lconst 0, 1) := by decide +kernel
theorem d_m_command4_161 : decode prog_10_method_17_code 161 = .ok (.lconst 0, 1) := by decide +kernel
theorem d_m_command4_162 : decode prog_10_method_17_code 162 = .ok (.lconst 0, 1) := by decide +kernel
theorem d_m_command4_163 : decode prog_10_method_17_code 163 = .ok (.lload 14, 2) := by decide +kernel
theorem d_m_command4_165 : decode prog_10_method_17_code 165 = .ok (.lload 16, 2) := by decide +kernel
theorem d_m_command4_167 : decode prog_10_method_17_code 167 = .ok (.iload 6, 2) := by decide +kernel
theorem d_m_command4_169 : decode prog_10_method_17_code 169 = .ok (.invokevirtual 161, 3) := by decide +kernel
theorem d_m_command4_172 : decode prog_10_method_17_code 172 = .ok (.aload_n 0, 1) := by decide +kernel
theorem d_m_command4_173 : decode prog_10_method_17_code 173 = .ok (.lload 14, 2) := by decide +kernel
theorem d_m_command4_175 : decode prog_10_method_17_code 175 = .ok (.putfield 165, 3) := by decide +kernel
theorem d_m_command4_178 : decode prog_10_method_17_code 178 = .ok (.aload_n 0, 1) := by decide +kernel
theorem d_m_command4_179 : decode prog_10_method_17_code 179 = .ok (.lload 16, 2) := by decide +kernel
theorem d_m_command4_181 : decode prog_10_method_17_code 181 = .ok (.putfield 168, 3) := by decide +kernel
theorem d_m_command4_184 : decode prog_10_method_17_code 184 = .ok (.aload_n 0, 1) := by decide +kernel
theorem d_m_command4_185 : decode prog_10_method_17_code 185 = .ok (.iconst 0, 1) := by decide +kernel
theorem d_m_command4_186 : decode prog_10_method_17_code 186 = .ok (.putfield 131, 3) := by decide +kernel
theorem d_m_command4_189 : decode prog_10_method_17_code 189 = .ok (.goto 413, 3) := by decide +kernel
theorem d_m_command4_192 : decode prog_10_method_17_code 192 = .ok (.iload_n 1, 1) := by decide +kernel
theorem d_m_command4_193 : decode prog_10_method_17_code 193 = .ok (.bipush 108, 2) := by decide +kernel
theorem d_m_command4_195 : decode prog_10_method_17_code 195 = .ok (.if_icmp .ne 21, 3) := by decide +kernel
theorem d_m_command4_198 : decode prog_10_method_17_code 198 = .ok (.aload_n 0, 1) := by decide +kernel
theorem d_m_command4_199 : decode prog_10_method_17_code 199 = .ok (.iconst 1, 1) := by decide +kernel
theorem d_m_command4_200 : decode prog_10_method_17_code 200 = .ok (.lconst 0, 1) := by decide +kernel
theorem d_m_command4_201 : decode prog_10_method_17_code 201 = .ok (.lconst 0, 1) := by decide +kernel
theorem d_m_command4_202 : decode prog_10_method_17_code 202 = .ok (.lconst 0, 1) := by decide +kernel
theorem d_m_command4_203 : decode prog_10_method_17_code 203 = .ok (.lconst 0, 1) := by decide +kernel
theorem d_m_command4_204 : decode prog_10_method_17_code 204 = .ok (.lload 14, 2) := by decide +kernel
theorem d_m_command4_206 : decode prog_10_method_17_code 206 = .ok (.lload 16, 2) := by decide +kernel
theorem d_m_command4_208 : decode prog_10_method_17_code 208 = .ok (.iload 6, 2) := by decide +kernel
theorem d_m_command4_210 : decode prog_10_method_17_code 210 = .ok (.invokevirtual 161, 3) := by decide +kernel
theorem d_m_command4_213 : decode prog_10_method_17_code 213 = .ok (.goto 389, 3) := by decide +kernel
theorem d_m_command4_216 : decode prog_10_method_17_code 216 = .ok (.iload_n 1, 1) := by decide +kernel
theorem d_m_command4_217 : decode prog_10_method_17_code 217 = .ok (.bipush 104, 2) := by decide +kernel
theorem d_m_command4_219 : decode prog_10_method_17_code 219 = .ok (.if_icmp .ne 29, 3) := by decide +kernel
theorem d_m_command4_222 : decode prog_10_method_17_code 222 = .ok (.aload_n 0, 1) := by decide +kernel
theorem d_m_command4_223 : decode prog_10_method_17_code 223 = .ok (.iconst 1, 1) := by decide +kernel
theorem d_m_command4_224 : decode prog_10_method_17_code 224 = .ok (.lconst 0, 1) := by decide +kernel
theorem d_m_command4_225 : decode prog_10_method_17_code 225 = .ok (.lconst 0, 1) := by decide +kernel
theorem d_m_command4_226 : decode prog_10_method_17_code 226 = .ok (.lconst 0, 1) := by decide +kernel
theorem d_m_command4_227 : decode prog_10_method_17_code 227 = .ok (.lconst 0, 1) := by decide +kernel
theorem d_m_command4_228 : decode prog_10_method_17_code 228 = .ok (.lload_n 2, 1) := by decide +kernel
theorem d_m_command4_229 : decode prog_10_method_17_code 229 = .ok (.aload_n 0, 1) := by decide +kernel
theorem d_m_command4_230 : decode prog_10_method_17_code 230 = .ok (.getfield 29, 3) := by decide +kernel
theorem d_m_command4_233 : decode prog_10_method_17_code 233 = .ok (.iconst 0, 1) := by decide +kernel
theorem d_m_command4_234 : decode prog_10_method_17_code 234 = .ok (.laload, 1) := by decide +kernel
theorem d_m_command4_235 : decode prog_10_method_17_code 235 = .ok (.ladd, 1) := by decide +kernel
theorem d_m_command4_236 : decode prog_10_method_17_code 236 = .ok (.aload_n 0, 1) := by decide +kernel
theorem d_m_command4_237 : decode prog_10_method_17_code 237 = .ok (.getfield 145, 3) := by decide +kernel
theorem d_m_command4_240 : decode prog_10_method_17_code 240 = .ok (.iload 6, 2) := by decide +kernel
theorem d_m_command4_242 : decode prog_10_method_17_code 242 = .ok (.invokevirtual 161, 3) := by decide +kernel
theorem d_m_command4_245 : decode prog_10_method_17_code 245 = .ok (.goto 357, 3) := by decide +kernel
theorem d_m_command4_248 : decode prog_10_method_17_code 248 = .ok (.iload_n 1, 1) := by decide +kernel
theorem d_m_command4_249 : decode prog_10_method_17_code 249 = .ok (.bipush 118, 2) := by decide +kernel
theorem d_m_command4_251 : decode prog_10_method_17_code 251 = .ok (.if_icmp .ne 30, 3) := by decide +kernel
theorem d_m_command4_254 : decode prog_10_method_17_code 254 = .ok (.aload_n 0, 1) := by decide +kernel
theorem d_m_command4_255 : decode prog_10_method_17_code 255 = .ok (.iconst 1, 1) := by decide +kernel
theorem d_m_command4_256 : decode prog_10_method_17_code 256 = .ok (.lconst 0, 1) := by decide +kernel
theorem d_m_command4_257 : decode prog_10_method_17_code 257 = .ok (.lconst 0, 1) := by decide +kernel
theorem d_m_command4_258 : decode prog_10_method_17_code 258 = .ok (.lconst 0, 1) := by decide +kernel
theorem d_m_command4_259 : decode prog_10_method_17_code 259 = .ok (.lconst 0, 1) := by decide +kernel
theorem d_m_command4_260 : decode prog_10_method_17_code 260 = .ok (.aload_n 0, 1) := by decide +kernel
theorem d_m_command4_261 : decode prog_10_method_17_code 261 = .ok (.getfield 142, 3) := by decide +kernel
theorem d_m_command4_264 : decode prog_10_method_17_code 264 = .ok (.lload 4, 2) := by decide +kernel
theorem d_m_command4_266 : decode prog_10_method_17_code 266 = .ok (.aload_n 0, 1) := by decide +kernel
theorem d_m_command4_267 : decode prog_10_method_17_code 267 = .ok (.getfield 29, 3) := by decide +kernel
theorem d_m_command4_270 : decode prog_10_method_17_code 270 = .ok (.iconst 0, 1) := by decide +kernel
theorem d_m_command4_271 : decode prog_10_method_17_code 271 = .ok (.laload, 1) := by decide +kernel
theorem d_m_command4_272 : decode prog_10_method_17_code 272 = .ok (.ladd, 1) := by decide +kernel
theorem d_m_command4_273 : decode prog_10_method_17_code 273 = .ok (.iload 6, 2) := by decide +kernel
theorem d_m_command4_275 : decode prog_10_method_17_code 275 = .ok (.invokevirtual 161, 3) := by decide +kernel
theorem d_m_command4_278 : decode prog_10_method_17_code 278 = .ok (.goto 324, 3) := by decide +kernel
theorem d_m_command4_281 : decode prog_10_method_17_code 281 = .ok (.iload_n 1, 1) := by decide +kernel
theorem d_m_command4_282 : decode prog_10_method_17_code 282 = .ok (.bipush 99, 2) := by decide +kernel
theorem d_m_command4_284 : decode prog_10_method_17_code 284 = .ok (.if_icmp .ne 67, 3) := by decide +kernel
theorem d_m_command4_287 : decode prog_10_method_17_code 287 = .ok (.aload_n 0, 1) := by decide +kernel
theorem d_m_command4_288 : decode prog_10_method_17_code 288 = .ok (.lload_n 2, 1) := by decide +kernel
theorem d_m_command4_289 : decode prog_10_method_17_code 289 = .ok (.aload_n 0, 1) := by decide +kernel
theorem d_m_command4_290 : decode prog_10_method_17_code 290 = .ok (.getfield 29, 3) := by decide +kernel
theorem d_m_command4_293 : decode prog_10_method_17_code 293 = .ok (.iconst 2, 1) := by decide +kernel
theorem d_m_command4_294 : decode prog_10_method_17_code 294 = .ok (.laload, 1) := by decide +kernel
theorem d_m_command4_295 : decode prog_10_method_17_code 295 = .ok (.ladd, 1) := by decide +kernel
theorem d_m_command4_296 : decode prog_10_method_17_code 296 = .ok (.putfield 151, 3) := by decide +kernel
theorem d_m_command4_299 : decode prog_10_method_17_code 299 = .ok (.aload_n 0, 1) := by decide +kernel
theorem d_m_command4_300 : decode prog_10_method_17_code 300 = .ok (.lload 4, 2) := by decide +kernel
theorem d_m_command4_302 : decode prog_10_method_17_code 302 = .ok (.aload_n 0, 1) := by decide +kernel
theorem d_m_command4_303 : decode prog_10_method_17_code 303 = .ok (.getfield 29, 3) := by decide +kernel
theorem d_m_command4_306 : decode prog_10_method_17_code 306 = .ok (.iconst 3, 1) := by decide +kernel
theorem d_m_command4_307 : decode prog_10_method_17_code 307 = .ok (.laload, 1) := by decide +kernel
theorem d_m_command4_308 : decode prog_10_method_17_code 308 = .ok (.ladd, 1) := by decide +kernel
theorem d_m_command4_309 : decode prog_10_method_17_code 309 = .ok (.putfield 154, 3) := by decide +kernel
theorem d_m_command4_312 : decode prog_10_method_17_code 312 = .ok (.aload_n 0, 1) := by decide +kernel
theorem d_m_command4_313 : decode prog_10_method_17_code 313 = .ok (.iconst 2, 1) := by decide +kernel
theorem d_m_command4_314 : decode prog_10_method_17_code 314 = .ok (.lload_n 2, 1) := by decide +kernel
theorem d_m_command4_315 : decode prog_10_method_17_code 315 = .ok (.aload_n 0, 1) := by decide +kernel
theorem d_m_command4_316 : decode prog_10_method_17_code 316 = .ok (.getfield 29, 3) := by decide +kernel
theorem d_m_command4_319 : decode prog_10_method_17_code 319 = .ok (.iconst 0, 1) := by decide +kernel
theorem d_m_command4_320 : decode prog_10_method_17_code 320 = .ok (.laload, 1) := by decide +kernel
theorem d_m_command4_321 : decode prog_10_method_17_code 321 = .ok (.ladd, 1) := by decide +kernel
theorem d_m_command4_322 : decode prog_10_method_17_code 322 = .ok (.lload 4, 2) := by decide +kernel
theorem d_m_command4_324 : decode prog_10_method_17_code 324 = .ok (.aload_n 0, 1) := by decide +kernel
theorem d_m_command4_325 : decode prog_10_method_17_code 325 = .ok (.getfield 29, 3) := by decide +kernel
theorem d_m_command4_328 : decode prog_10_method_17_code 328 = .ok (.iconst 1, 1) := by decide +kernel
theorem d_m_command4_329 : decode prog_10_method_17_code 329 = .ok (.laload, 1) := by decide +kernel
theorem d_m_command4_330 : decode prog_10_method_17_code 330 = .ok (.ladd, 1) := by decide +kernel
theorem d_m_command4_331 : decode prog_10_method_17_code 331 = .ok (.aload_n 0, 1) := by decide +kernel
theorem d_m_command4_332 : decode prog_10_method_17_code 332 = .ok (.getfield 151, 3) := by decide +kernel
theorem d_m_command4_335 : decode prog_10_method_17_code 335 = .ok (.aload_n 0, 1) := by decide +kernel
theorem d_m_command4_336 : decode prog_10_method_17_code 336 = .ok (.getfield 154, 3) := by decide +kernel
theorem d_m_command4_339 : decode prog_10_method_17_code 339 = .ok (.lload 14, 2) := by decide +kernel
theorem d_m_command4_341 : decode prog_10_method_17_code 341 = .ok (.lload 16, 2) := by decide +kernel
theorem d_m_command4_343 : decode prog_10_method_17_code 343 = .ok (.iload 6, 2) := by decide +kernel
theorem d_m_command4_345 : decode prog_10_method_17_code 345 = .ok (.invokevirtual 161, 3) := by decide +kernel
theorem d_m_command4_348 : decode prog_10_method_17_code 348 = .ok (.goto 254, 3) := by decide +kernel
theorem d_m_command4_351 : decode prog_10_method_17_code 351 = .ok (.iload_n 1, 1) := by decide +kernel
theorem d_m_command4_352 : decode prog_10_method_17_code 352 = .ok (.bipush 115, 2) := by decide +kernel
theorem d_m_command4_354 : decode prog_10_method_17_code 354 = .ok (.if_icmp .ne 74, 3) := by decide +kernel
theorem d_m_command4_357 : decode prog_10_method_17_code 357 = .ok (.aload_n 0, 1) := by decide +kernel
theorem d_m_command4_358 : decode prog_10_method_17_code 358 = .ok (.lload_n 2, 1) := by decide +kernel
theorem d_m_command4_359 : decode prog_10_method_17_code 359 = .ok (.aload_n 0, 1) := by decide +kernel
theorem d_m_command4_360 : decode prog_10_method_17_code 360 = .ok (.getfield 29, 3) := by decide +kernel
theorem d_m_command4_363 : decode prog_10_method_17_code 363 = .ok (.iconst 0, 1) := by decide +kernel
theorem d_m_command4_364 : decode prog_10_method_17_code 364 = .ok (.laload, 1) := by decide +kernel
theorem d_m_command4_365 : decode prog_10_method_17_code 365 = .ok (.ladd, 1) := by decide +kernel
theorem d_m_command4_366 : decode prog_10_method_17_code 366 = .ok (.putfield 151, 3) := by decide +kernel
theorem d_m_command4_369 : decode prog_10_method_17_code 369 = .ok (.aload_n 0, 1) := by decide +kernel
theorem d_m_command4_370 : decode prog_10_method_17_code 370 = .ok (.lload 4, 2) := by decide +kernel
theorem d_m_command4_372 : decode prog_10_method_17_code 372 = .ok (.aload_n 0, 1) := by decide +kernel
theorem d_m_command4_373 : decode prog_10_method_17_code 373 = .ok (.getfield 29, 3) := by decide +kernel
theorem d_m_command4_376 : decode prog_10_method_17_code 376 = .ok (.iconst 1, 1) := by decide +kernel
theorem d_m_command4_377 : decode prog_10_method_17_code 377 = .ok (.laload, 1) := by decide +kernel
theorem d_m_command4_378 : decode prog_10_method_17_code 378 = .ok (.ladd, 1) := by decide +kernel
theorem d_m_command4_379 : decode prog_10_method_17_code 379 = .ok (.putfield 154, 3) := by decide +kernel
theorem d_m_command4_382 : decode prog_10_method_17_code 382 = .ok (.aload_n 0, 1) := by decide +kernel
theorem d_m_command4_383 : decode prog_10_method_17_code 383 = .ok (.iconst 2, 1) := by decide +kernel
theorem d_m_command4_384 : decode prog_10_method_17_code 384 = .ok (.iload 7, 2) := by decide +kernel
theorem d_m_command4_386 : decode prog_10_method_17_code 386 = .ok (.ifCond .eq 8, 3) := by decide +kernel
theorem d_m_command4_389 : decode prog_10_method_17_code 389 = .ok (.lload 9, 2) := by decide +kernel
theorem d_m_command4_391 : decode prog_10_method_17_code 391 = .ok (.goto 5, 3) := by decide +kernel
theorem d_m_command4_394 : decode prog_10_method_17_code 394 = .ok (.lload 18, 2) := by decide +kernel
theorem d_m_command4_396 : decode prog_10_method_17_code 396 = .ok (.iload 7, 2) := by decide +kernel
theorem d_m_command4_398 : decode prog_10_method_17_code 398 = .ok (.ifCond .eq 8, 3) := by decide +kernel
theorem d_m_command4_401 : decode prog_10_method_17_code 401 = .ok (.lload 11, 2) := by decide +kernel
theorem d_m_command4_403 : decode prog_10_method_17_code 403 = .ok (.goto 5, 3) := by decide +kernel
theorem d_m_command4_406 : decode prog_10_method_17_code 406 = .ok (.lload 20, 2) := by decide +kernel
theorem d_m_command4_408 : decode prog_10_method_17_code 408 = .ok (.aload_n 0, 1) := by decide +kernel
theorem d_m_command4_409 : decode prog_10_method_17_code 409 = .ok (.getfield 151, 3) := by decide +kernel
theorem d_m_command4_412 : decode prog_10_method_17_code 412 = .ok (.aload_n 0, 1) := by decide +kernel
theorem d_m_command4_413 : decode prog_10_method_17_code 413 = .ok (.getfield 154, 3) := by decide +kernel
theorem d_m_command4_416 : decode prog_10_method_17_code 416 = .ok (.lload 14, 2) := by decide +kernel
theorem d_m_command4_418 : decode prog_10_method_17_code 418 = .ok (.lload 16, 2) := by decide +kernel
theorem d_m_command4_420 : decode prog_10_method_17_code 420 = .ok (.iload 6, 2) := by decide +kernel
theorem d_m_command4_422 : decode prog_10_method_17_code 422 = .ok (.invokevirtual 161, 3) := by decide +kernel
theorem d_m_command4_425 : decode prog_10_method_17_code 425 = .ok (.goto 177, 3) := by decide +kernel
theorem d_m_command4_428 : decode prog_10_method_17_code 428 = .ok (.iload_n 1, 1) := by decide +kernel
theorem d_m_command4_429 : decode prog_10_method_17_code 429 = .ok (.bipush 122, 2) := by decide +kernel
theorem d_m_command4_431 : decode prog_10_method_17_code 431 = .ok (.if_icmp .ne 25, 3) := by decide +kernel
theorem d_m_command4_434 : decode prog_10_method_17_code 434 = .ok (.aload_n 0, 1) := by decide +kernel
theorem d_m_command4_435 : decode prog_10_method_17_code 435 = .ok (.iconst 3, 1) := by decide +kernel
theorem d_m_command4_436 : decode prog_10_method_17_code 436 = .ok (.lconst 0, 1) := by decide +kernel
theorem d_m_command4_437 : decode prog_10_method_17_code 437 = .ok (.lconst 0, 1) := by decide +kernel
theorem d_m_command4_438 : decode prog_10_method_17_code 438 = .ok (.lconst 0, 1) := by decide +kernel
theorem d_m_command4_439 : decode prog_10_method_17_code 439 = .ok (.lconst 0, 1) := by decide +kernel
theorem d_m_command4_440 : decode prog_10_method_17_code 440 = .ok (.aload_n 0, 1) := by decide +kernel
theorem d_m_command4_441 : decode prog_10_method_17_code 441 = .ok (.getfield 165, 3) := by decide +kernel
theorem d_m_command4_444 : decode prog_10_method_17_code 444 = .ok (.aload_n 0, 1) := by decide +kernel
theorem d_m_command4_445 : decode prog_10_method_17_code 445 = .ok (.getfield 168, 3) := by decide +kernel
theorem d_m_command4_448 : decode prog_10_method_17_code 448 = .ok (.iload 6, 2) := by decide +kernel
theorem d_m_command4_450 : decode prog_10_method_17_code 450 = .ok (.invokevirtual 161, 3) := by decide +kernel
theorem d_m_command4_453 : decode prog_10_method_17_code 453 = .ok (.goto 149, 3) := by decide +kernel
theorem d_m_command4_456 : decode prog_10_method_17_code 456 = .ok (.aload_n 0, 1) := by decide +kernel
theorem d_m_command4_457 : decode prog_10_method_17_code 457 = .ok (.iload_n 1, 1) := by decide +kernel
theorem d_m_command4_458 : decode prog_10_method_17_code 458 = .ok (.bipush 113, 2) := by decide +kernel
theorem d_m_command4_460 : decode prog_10_method_17_code 460 = .ok (.if_icmp .ne 14, 3) := by decide +kernel
theorem d_m_command4_463 : decode prog_10_method_17_code 463 = .ok (.lload_n 2, 1) := by decide +kernel
theorem d_m_command4_464 : decode prog_10_method_17_code 464 = .ok (.aload_n 0, 1) := by decide +kernel
theorem d_m_command4_465 : decode prog_10_method_17_code 465 = .ok (.getfield 29, 3) := by decide +kernel
theorem d_m_command4_468 : decode prog_10_method_17_code 468 = .ok (.iconst 0, 1) := by decide +kernel
theorem d_m_command4_469 : decode prog_10_method_17_code 469 = .ok (.laload, 1) := by decide +kernel
theorem d_m_command4_470 : decode prog_10_method_17_code 470 = .ok (.ladd, 1) := by decide +kernel
theorem d_m_command4_471 : decode prog_10_method_17_code 471 = .ok (.goto 15, 3) := by decide +kernel
theorem d_m_command4_474 : decode prog_10_method_17_code 474 = .ok (.iload 8, 2) := by decide +kernel
theorem d_m_command4_476 : decode prog_10_method_17_code 476 = .ok (.ifCond .eq 8, 3) := by decide +kernel
theorem d_m_command4_479 : decode prog_10_method_17_code 479 = .ok (.lload 9, 2) := by decide +kernel
theorem d_m_command4_481 : decode prog_10_method_17_code 481 = .ok (.goto 5, 3) := by decide +kernel
theorem d_m_command4_484 : decode prog_10_method_17_code 484 = .ok (.lload 18, 2) := by decide +kernel
theorem d_m_command4_486 : decode prog_10_method_17_code 486 = .ok (.putfield 151, 3) := by decide +kernel
theorem d_m_command4_489 : decode prog_10_method_17_code 489 = .ok (.aload_n 0, 1) := by decide +kernel
theorem d_m_command4_490 : decode prog_10_method_17_code 490 = .ok (.iload_n 1, 1) := by decide +kernel
theorem d_m_command4_491 : decode prog_10_method_17_code 491 = .ok (.bipush 113, 2) := by decide +kernel
theorem d_m_command4_493 : decode prog_10_method_17_code 493 = .ok (.if_icmp .ne 15, 3) := by decide +kernel
theorem d_m_command4_496 : decode prog_10_method_17_code 496 = .ok (.lload 4, 2) := by decide +kernel
theorem d_m_command4_498 : decode prog_10_method_17_code 498 = .ok (.aload_n 0, 1) := by decide +kernel
theorem d_m_command4_499 : decode prog_10_method_17_code 499 = .ok (.getfield 29, 3) := by decide +kernel
theorem d_m_command4_502 : decode prog_10_method_17_code 502 = .ok (.iconst 1, 1) := by decide +kernel
theorem d_m_command4_503 : decode prog_10_method_17_code 503 = .ok (.laload, 1) := by decide +kernel
theorem d_m_command4_504 : decode prog_10_method_17_code 504 = .ok (.ladd, 1) := by decide +kernel
theorem d_m_command4_505 : decode prog_10_method_17_code 505 = .ok (.goto 15, 3) := by decide +kernel
theorem d_m_command4_508 : decode prog_10_method_17_code 508 = .ok (.iload 8, 2) := by decide +kernel
theorem d_m_command4_510 : decode prog_10_method_17_code 510 = .ok (.ifCond .eq 8, 3) := by decide +kernel
theorem d_m_command4_513 : decode prog_10_method_17_code 513 = .ok (.lload 11, 2) := by decide +kernel
theorem d_m_command4_515 : decode prog_10_method_17_code 515 = .ok (.goto 5, 3) := by decide +kernel
theorem d_m_command4_518 : decode prog_10_method_17_code 518 = .ok (.lload 20, 2) := by decide +kernel
theorem d_m_command4_520 : decode prog_10_method_17_code 520 = .ok (.putfield 154, 3) := by decide +kernel
theorem d_m_command4_523 : decode prog_10_method_17_code 523 = .ok (.aload_n 0, 1) := by decide +kernel
theorem d_m_command4_524 : decode prog_10_method_17_code 524 = .ok (.iconst 2, 1) := by decide +kernel
theorem d_m_command4_525 : decode prog_10_method_17_code 525 = .ok (.lload 18, 2) := by decide +kernel
theorem d_m_command4_527 : decode prog_10_method_17_code 527 = .ok (.ldc2_w 54, 3) := by decide +kernel
theorem d_m_command4_530 : decode prog_10_method_17_code 530 = .ok (.aload_n 0, 1) := by decide +kernel
theorem d_m_command4_531 : decode prog_10_method_17_code 531 = .ok (.getfield 151, 3) := by decide +kernel
theorem d_m_command4_534 : decode prog_10_method_17_code 534 = .ok (.lmul, 1) := by decide +kernel
theorem d_m_command4_535 : decode prog_10_method_17_code 535 = .ok (.ladd, 1) := by decide +kernel
theorem d_m_command4_536 : decode prog_10_method_17_code 536 = .ok (.ldc2_w 171, 3) := by decide +kernel
theorem d_m_command4_539 : decode prog_10_method_17_code 539 = .ok (.invokestatic 110, 3) := by decide +kernel
theorem d_m_command4_542 : decode prog_10_method_17_code 542 = .ok (.lload 20, 2) := by decide +kernel
theorem d_m_command4_544 : decode prog_10_method_17_code 544 = .ok (.ldc2_w 54, 3) := by decide +kernel
theorem d_m_command4_547 : decode prog_10_method_17_code 547 = .ok (.aload_n 0, 1) := by decide +kernel
theorem d_m_command4_548 : decode prog_10_method_17_code 548 = .ok (.getfield 154, 3) := by decide +kernel
theorem d_m_command4_551 : decode prog_10_method_17_code 551 = .ok (.lmul, 1) := by decide +kernel
theorem d_m_command4_552 : decode prog_10_method_17_code 552 = .ok (.ladd, 1) := by decide +kernel
theorem d_m_command4_553 : decode prog_10_method_17_code 553 = .ok (.ldc2_w 171, 3) := by decide +kernel
theorem d_m_command4_556 : decode prog_10_method_17_code 556 = .ok (.invokestatic 110, 3) := by decide +kernel
theorem d_m_command4_559 : decode prog_10_method_17_code 559 = .ok (.lload 14, 2) := by decide +kernel
theorem d_m_command4_561 : decode prog_10_method_17_code 561 = .ok (.ldc2_w 54, 3) := by decide +kernel
theorem d_m_command4_564 : decode prog_10_method_17_code 564 = .ok (.aload_n 0, 1) := by decide +kernel
theorem d_m_command4_565 : decode prog_10_method_17_code 565 = .ok (.getfield 151, 3) := by decide +kernel
theorem d_m_command4_568 : decode prog_10_method_17_code 568 = .ok (.lmul, 1) := by decide +kernel
theorem d_m_command4_569 : decode prog_10_method_17_code 569 = .ok (.ladd, 1) := by decide +kernel
theorem d_m_command4_570 : decode prog_10_method_17_code 570 = .ok (.ldc2_w 171, 3) := by decide +kernel
theorem d_m_command4_573 : decode prog_10_method_17_code 573 = .ok (.invokestatic 110, 3) := by decide +kernel
theorem d_m_command4_576 : decode prog_10_method_17_code 576 = .ok (.lload 16, 2) := by decide +kernel
theorem d_m_command4_578 : decode prog_10_method_17_code 578 = .ok (.ldc2_w 54, 3) := by decide +kernel
theorem d_m_command4_581 : decode prog_10_method_17_code 581 = .ok (.aload_n 0, 1) := by decide +kernel
theorem d_m_command4_582 : decode prog_10_method_17_code 582 = .ok (.getfield 154, 3) := by decide +kernel
theorem d_m_command4_585 : decode prog_10_method_17_code 585 = .ok (.lmul, 1) := by decide +kernel
theorem d_m_command4_586 : decode prog_10_method_17_code 586 = .ok (.ladd, 1) := by decide +kernel
theorem d_m_command4_587 : decode prog_10_method_17_code 587 = .ok (.ldc2_w 171, 3) := by decide +kernel
theorem d_m_command4_590 : decode prog_10_method_17_code 590 = .ok (.invokestatic 110, 3) := by decide +kernel
theorem d_m_command4_593 : decode prog_10_method_17_code 593 = .ok (.lload 14, 2) := by decide +kernel
theorem d_m_command4_595 : decode prog_10_method_17_code 595 = .ok (.lload 16, 2) := by decide +kernel
theorem d_m_command4_597 : decode prog_10_method_17_code 597 = .ok (.iload 6, 2) := by decide +kernel
theorem d_m_command4_599 : decode prog_10_method_17_code 599 = .ok (.invokevirtual 161, 3) := by decide +kernel
theorem d_m_command4_602 : decode prog_10_method_17_code 602 = .ok (.aload_n 0, 1) := by decide +kernel
theorem d_m_command4_603 : decode prog_10_method_17_code 603 = .ok (.iload_n 1, 1) := by decide +kernel
theorem d_m_command4_604 : decode prog_10_method_17_code 604 = .ok (.putfield 148, 3) := by decide +kernel
theorem d_m_command4_607 : decode prog_10_method_17_code 607 = .ok (.return_, 1) := by decide +kernel
theorem d_m_commandsOf_0 : decode prog_10_method_18_code 0 = .ok (.iload_n 1, 1) := by decide +kernel
theorem d_m_commandsOf_1 : decode prog_10_method_18_code 1 = .ok (.bipush 97, 2) := by decide +kernel
theorem d_m_commandsOf_3 : decode prog_10_method_18_code 3 = .ok (.if_icmp .lt 7, 3) := by decide +kernel
theorem d_m_commandsOf_6 : decode prog_10_method_18_code 6 = .ok (.iconst 1, 1) := by decide +kernel
theorem d_m_commandsOf_7 : decode prog_10_method_18_code 7 = .ok (.goto 4, 3) := by decide +kernel
theorem d_m_commandsOf_10 : decode prog_10_method_18_code 10 = .ok (.iconst 0, 1) := by decide +kernel
theorem d_m_commandsOf_11 : decode prog_10_method_18_code 11 = .ok (.istore_n 3, 1) := by decide +kernel
theorem d_m_commandsOf_12 : decode prog_10_method_18_code 12 = .ok (.iload_n 3, 1) := by decide +kernel
theorem d_m_commandsOf_13 : decode prog_10_method_18_code 13 = .ok (.ifCond .eq 7, 3) := by decide +kernel
theorem d_m_commandsOf_16 : decode prog_10_method_18_code 16 = .ok (.iload_n 1, 1) := by decide +kernel
theorem d_m_commandsOf_17 : decode prog_10_method_18_code 17 = .ok (.goto 7, 3) := by decide +kernel
theorem d_m_commandsOf_20 : decode prog_10_method_18_code 20 = .ok (.iload_n 1, 1) := by decide +kernel
theorem d_m_commandsOf_21 : decode prog_10_method_18_code 21 = .ok (.bipush 32, 2) := by decide +kernel
theorem d_m_commandsOf_23 : decode prog_10_method_18_code 23 = .ok (.iadd, 1) := by decide +kernel
theorem d_m_commandsOf_24 : decode prog_10_method_18_code 24 = .ok (.istore 4, 2) := by decide +kernel
theorem d_m_commandsOf_26 : decode prog_10_method_18_code 26 = .ok (.aload_n 0, 1) := by decide +kernel
theorem d_m_commandsOf_27 : decode prog_10_method_18_code 27 = .ok (.dup, 1) := by decide +kernel
theorem d_m_commandsOf_28 : decode prog_10_method_18_code 28 = .ok (.getfield 69, 3) := by decide +kernel
theorem d_m_commandsOf_31 : decode prog_10_method_18_code 31 = .ok (.iconst 1, 1) := by decide +kernel
theorem d_m_commandsOf_32 : decode prog_10_method_18_code 32 = .ok (.iadd, 1) := by decide +kernel
theorem d_m_commandsOf_33 : decode prog_10_method_18_code 33 = .ok (.putfield 69, 3) := by decide +kernel
theorem d_m_commandsOf_36 : decode prog_10_method_18_code 36 = .ok (.iload 4, 2) := by decide +kernel
theorem d_m_commandsOf_38 : decode prog_10_method_18_code 38 = .ok (.bipush 122, 2) := by decide +kernel
theorem d_m_commandsOf_40 : decode prog_10_method_18_code 40 = .ok (.if_icmp .ne 13, 3) := by decide +kernel
theorem d_m_commandsOf_43 : decode prog_10_method_18_code 43 = .ok (.aload_n 0, 1) := by decide +kernel
theorem d_m_commandsOf_44 : decode prog_10_method_18_code 44 = .ok (.iload 4, 2) := by decide +kernel
theorem d_m_commandsOf_46 : decode prog_10_method_18_code 46 = .ok (.lconst 0, 1) := by decide +kernel
theorem d_m_commandsOf_47 : decode prog_10_method_18_code 47 = .ok (.lconst 0, 1) := by decide +kernel
theorem d_m_commandsOf_48 : decode prog_10_method_18_code 48 = .ok (.iload_n 2, 1) := by decide +kernel
theorem d_m_commandsOf_49 : decode prog_10_method_18_code 49 = .ok (.invokevirtual 173, 3) := by decide +kernel
theorem d_m_commandsOf_52 : decode prog_10_method_18_code 52 = .ok (.return_, 1) := by decide +kernel
theorem d_m_commandsOf_53 : decode prog_10_method_18_code 53 = .ok (.iconst 1, 1) := by decide +kernel
theorem d_m_commandsOf_54 : decode prog_10_method_18_code 54 = .ok (.istore 5, 2) := by decide +kernel
theorem d_m_commandsOf_56 : decode prog_10_method_18_code 56 = .ok (.iload 5, 2) := by decide +kernel
theorem d_m_commandsOf_58 : decode prog_10_method_18_code 58 = .ok (.ifCond .eq 113, 3) := by decide +kernel
theorem d_m_commandsOf_61 : decode prog_10_method_18_code 61 = .ok (.aload_n 0, 1) := by decide +kernel
theorem d_m_commandsOf_62 : decode prog_10_method_18_code 62 = .ok (.getfield 97, 3) := by decide +kernel
theorem d_m_commandsOf_65 : decode prog_10_method_18_code 65 = .ok (.ifCond .ge 106, 3) := by decide +kernel
theorem d_m_commandsOf_68 : decode prog_10_method_18_code 68 = .ok (.aload_n 0, 1) := by decide +kernel
theorem d_m_commandsOf_69 : decode prog_10_method_18_code 69 = .ok (.iload 4, 2) := by decide +kernel
theorem d_m_commandsOf_71 : decode prog_10_method_18_code 71 = .ok (.invokestatic 157, 3) := by decide +kernel
theorem d_m_commandsOf_74 : decode prog_10_method_18_code 74 = .ok (.invokevirtual 127, 3) := by decide +kernel
theorem d_m_commandsOf_77 : decode prog_10_method_18_code 77 = .ok (.aload_n 0, 1) := by decide +kernel
theorem d_m_commandsOf_78 : decode prog_10_method_18_code 78 = .ok (.getfield 97, 3) := by decide +kernel
theorem d_m_commandsOf_81 : decode prog_10_method_18_code 81 = .ok (.ifCond .ge (-25), 3) := by decide +kernel
theorem d_m_commandsOf_84 : decode prog_10_method_18_code 84 = .ok (.iload_n 3, 1) := by decide +kernel
theorem d_m_commandsOf_85 : decode prog_10_method_18_code 85 = .ok (.ifCond .eq 21, 3) := by decide +kernel
theorem d_m_commandsOf_88 : decode prog_10_method_18_code 88 = .ok (.iload 4, 2) := by decide +kernel
theorem d_m_commandsOf_90 : decode prog_10_method_18_code 90 = .ok (.bipush 109, 2) := by decide +kernel
theorem d_m_commandsOf_92 : decode prog_10_method_18_code 92 = .ok (.if_icmp .ne 10, 3) := by decide +kernel
theorem d_m_commandsOf_95 : decode prog_10_method_18_code 95 = .ok (.aload_n 0, 1) := by decide +kernel
theorem d_m_commandsOf_96 : decode prog_10_method_18_code 96 = .ok (.getfield 131, 3) := by decide +kernel
theorem d_m_commandsOf_99 : decode prog_10_method_18_code 99 = .ok (.ifCond .ne 7, 3) := by decide +kernel
theorem d_m_commandsOf_102 : decode prog_10_method_18_code 102 = .ok (.iconst 1, 1) := by decide +kernel
theorem d_m_commandsOf_103 : decode prog_10_method_18_code 103 = .ok (.goto 4, 3) := by decide +kernel
theorem d_m_commandsOf_106 : decode prog_10_method_18_code 106 = .ok (.iconst 0, 1) := by decide +kernel
theorem d_m_commandsOf_107 : decode prog_10_method_18_code 107 = .ok (.istore 6, 2) := by decide +kernel
theorem d_m_commandsOf_109 : decode prog_10_method_18_code 109 = .ok (.aload_n 0, 1) := by decide +kernel
theorem d_m_commandsOf_110 : decode prog_10_method_18_code 110 = .ok (.iload 4, 2) := by decide +kernel
theorem d_m_commandsOf_112 : decode prog_10_method_18_code 112 = .ok (.iload 6, 2) := by decide +kernel
theorem d_m_commandsOf_114 : decode prog_10_method_18_code 114 = .ok (.ifCond .eq 10, 3) := by decide +kernel
theorem d_m_commandsOf_117 : decode prog_10_method_18_code 117 = .ok (.aload_n 0, 1) := by decide +kernel
theorem d_m_commandsOf_118 : decode prog_10_method_18_code 118 = .ok (.getfield 142, 3) := by decide +kernel
theorem d_m_commandsOf_121 : decode prog_10_method_18_code 121 = .ok (.goto 4, 3) := by decide +kernel
theorem d_m_commandsOf_124 : decode prog_10_method_18_code 124 = .ok (.lconst 0, 1) := by decide +kernel
theorem d_m_commandsOf_125 : decode prog_10_method_18_code 125 = .ok (.iload 6, 2) := by decide +kernel
theorem d_m_commandsOf_127 : decode prog_10_method_18_code 127 = .ok (.ifCond .eq 10, 3) := by decide +kernel
theorem d_m_commandsOf_130 : decode prog_10_method_18_code 130 = .ok (.aload_n 0, 1) := by decide +kernel
theorem d_m_commandsOf_131 : decode prog_10_method_18_code 131 = .ok (.getfield 145, 3) := by decide +kernel
theorem d_m_commandsOf_134 : decode prog_10_method_18_code 134 = .ok (.goto 4, 3) := by decide +kernel
theorem d_m_commandsOf_137 : decode prog_10_method_18_code 137 = .ok (.lconst 0, 1) := by decide +kernel
theorem d_m_commandsOf_138 : decode prog_10_method_18_code 138 = .ok (.iload_n 2, 1) := by decide +kernel
theorem d_m_commandsOf_139 : decode prog_10_method_18_code 139 = .ok (.invokevirtual 173, 3) := by decide +kernel
theorem d_m_commandsOf_142 : decode prog_10_method_18_code 142 = .ok (.iload 4, 2) := by decide +kernel
theorem d_m_commandsOf_144 : decode prog_10_method_18_code 144 = .ok (.bipush 109, 2) := by decide +kernel
theorem d_m_commandsOf_146 : decode prog_10_method_18_code 146 = .ok (.if_icmp .ne 8, 3) := by decide +kernel
theorem d_m_commandsOf_149 : decode prog_10_method_18_code 149 = .ok (.bipush 108, 2) := by decide +kernel
theorem d_m_commandsOf_151 : decode prog_10_method_18_code 151 = .ok (.goto 5, 3) := by decide +kernel
theorem d_m_commandsOf_154 : decode prog_10_method_18_code 154 = .ok (.iload 4, 2) := by decide +kernel
theorem d_m_commandsOf_156 : decode prog_10_method_18_code 156 = .ok (.istore 4, 2) := by decide +kernel
theorem d_m_commandsOf_158 : decode prog_10_method_18_code 158 = .ok (.aload_n 0, 1) := by decide +kernel
theorem d_m_commandsOf_159 : decode prog_10_method_18_code 159 = .ok (.invokevirtual 90, 3) := by decide +kernel
theorem d_m_commandsOf_162 : decode prog_10_method_18_code 162 = .ok (.aload_n 0, 1) := by decide +kernel
theorem d_m_commandsOf_163 : decode prog_10_method_18_code 163 = .ok (.invokevirtual 93, 3) := by decide +kernel
theorem d_m_commandsOf_166 : decode prog_10_method_18_code 166 = .ok (.istore 5, 2) := by decide +kernel
theorem d_m_commandsOf_168 : decode prog_10_method_18_code 168 = .ok (.goto (-112), 3) := by decide +kernel
theorem d_m_commandsOf_171 : decode prog_10_method_18_code 171 = .ok (.return_, 1) := by decide +kernel
theorem d_m_readOne_0 : decode prog_10_method_19_code 0 = .ok (.aload_n 0, 1) := by decide +kernel
theorem d_m_readOne_1 : decode prog_10_method_19_code 1 = .ok (.getfield 69, 3) := by decide +kernel
theorem d_m_readOne_4 : decode prog_10_method_19_code 4 = .ok (.istore_n 1, 1) := by decide +kernel
theorem d_m_readOne_5 : decode prog_10_method_19_code 5 = .ok (.aload_n 0, 1) := by decide +kernel
theorem d_m_readOne_6 : decode prog_10_method_19_code 6 = .ok (.invokevirtual 72, 3) := by decide +kernel
theorem d_m_readOne_9 : decode prog_10_method_19_code 9 = .ok (.istore_n 2, 1) := by decide +kernel
theorem d_m_readOne_10 : decode prog_10_method_19_code 10 = .ok (.iload_n 2, 1) := by decide +kernel
theorem d_m_readOne_11 : decode prog_10_method_19_code 11 = .ok (.bipush 40, 2) := by decide +kernel
theorem d_m_readOne_13 : decode prog_10_method_19_code 13 = .ok (.if_icmp .ne 11, 3) := by decide +kernel
theorem d_m_readOne_16 : decode prog_10_method_19_code 16 = .ok (.aload_n 0, 1) := by decide +kernel
theorem d_m_readOne_17 : decode prog_10_method_19_code 17 = .ok (.iload_n 1, 1) := by decide +kernel
theorem d_m_readOne_18 : decode prog_10_method_19_code 18 = .ok (.invokevirtual 176, 3) := by decide +kernel
theorem d_m_readOne_21 : decode prog_10_method_19_code 21 = .ok (.goto 103, 3) := by decide +kernel
theorem d_m_readOne_24 : decode prog_10_method_19_code 24 = .ok (.iload_n 2, 1) := by decide +kernel
theorem d_m_readOne_25 : decode prog_10_method_19_code 25 = .ok (.bipush 41, 2) := by decide +kernel
theorem d_m_readOne_27 : decode prog_10_method_19_code 27 = .ok (.if_icmp .ne 44, 3) := by decide +kernel
theorem d_m_readOne_30 : decode prog_10_method_19_code 30 = .ok (.aload_n 0, 1) := by decide +kernel
theorem d_m_readOne_31 : decode prog_10_method_19_code 31 = .ok (.dup, 1) := by decide +kernel
theorem d_m_readOne_32 : decode prog_10_method_19_code 32 = .ok (.getfield 69, 3) := by decide +kernel
theorem d_m_readOne_35 : decode prog_10_method_19_code 35 = .ok (.iconst 1, 1) := by decide +kernel
theorem d_m_readOne_36 : decode prog_10_method_19_code 36 = .ok (.iadd, 1) := by decide +kernel
theorem d_m_readOne_37 : decode prog_10_method_19_code 37 = .ok (.putfield 69, 3) := by decide +kernel
theorem d_m_readOne_40 : decode prog_10_method_19_code 40 = .ok (.aload_n 0, 1) := by decide +kernel
theorem d_m_readOne_41 : decode prog_10_method_19_code 41 = .ok (.getfield 124, 3) := by decide +kernel
theorem d_m_readOne_44 : decode prog_10_method_19_code 44 = .ok (.ifCond .ne 9, 3) := by decide +kernel
theorem d_m_readOne_47 : decode prog_10_method_19_code 47 = .ok (.aload_n 0, 1) := by decide +kernel
theorem d_m_readOne_48 : decode prog_10_method_19_code 48 = .ok (.iload_n 1, 1) := by decide +kernel
theorem d_m_readOne_49 : decode prog_10_method_19_code 49 = .ok (.putfield 97, 3) := by decide +kernel
theorem d_m_readOne_52 : decode prog_10_method_19_code 52 = .ok (.return_, 1) := by decide +kernel
theorem d_m_readOne_53 : decode prog_10_method_19_code 53 = .ok (.aload_n 0, 1) := by decide +kernel
theorem d_m_readOne_54 : decode prog_10_method_19_code 54 = .ok (.dup, 1) := by decide +kernel
theorem d_m_readOne_55 : decode prog_10_method_19_code 55 = .ok (.getfield 124, 3) := by decide +kernel
theorem d_m_readOne_58 : decode prog_10_method_19_code 58 = .ok (.iconst 1, 1) := by decide +kernel
theorem d_m_readOne_59 : decode prog_10_method_19_code 59 = .ok (.isub, 1) := by decide +kernel
theorem d_m_readOne_60 : decode prog_10_method_19_code 60 = .ok (.putfield 124, 3) := by decide +kernel
theorem d_m_readOne_63 : decode prog_10_method_19_code 63 = .ok (.aload_n 0, 1) := by decide +kernel
theorem d_m_readOne_64 : decode prog_10_method_19_code 64 = .ok (.iconst 1, 1) := by decide +kernel
theorem d_m_readOne_65 : decode prog_10_method_19_code 65 = .ok (.putfield 131, 3) := by decide +kernel
theorem d_m_readOne_68 : decode prog_10_method_19_code 68 = .ok (.goto 56, 3) := by decide +kernel
theorem d_m_readOne_71 : decode prog_10_method_19_code 71 = .ok (.iload_n 2, 1) := by decide +kernel
theorem d_m_readOne_72 : decode prog_10_method_19_code 72 = .ok (.bipush 65, 2) := by decide +kernel
theorem d_m_readOne_74 : decode prog_10_method_19_code 74 = .ok (.if_icmp .lt 16, 3) := by decide +kernel
theorem d_m_readOne_77 : decode prog_10_method_19_code 77 = .ok (.iload_n 2, 1) := by decide +kernel
theorem d_m_readOne_78 : decode prog_10_method_19_code 78 = .ok (.bipush 90, 2) := by decide +kernel
theorem d_m_readOne_80 : decode prog_10_method_19_code 80 = .ok (.if_icmp .gt 10, 3) := by decide +kernel
theorem d_m_readOne_83 : decode prog_10_method_19_code 83 = .ok (.iload_n 2, 1) := by decide +kernel
theorem d_m_readOne_84 : decode prog_10_method_19_code 84 = .ok (.bipush 32, 2) := by decide +kernel
theorem d_m_readOne_86 : decode prog_10_method_19_code 86 = .ok (.iadd, 1) := by decide +kernel
theorem d_m_readOne_87 : decode prog_10_method_19_code 87 = .ok (.goto 4, 3) := by decide +kernel
theorem d_m_readOne_90 : decode prog_10_method_19_code 90 = .ok (.iload_n 2, 1) := by decide +kernel
theorem d_m_readOne_91 : decode prog_10_method_19_code 91 = .ok (.istore_n 3, 1) := by decide +kernel
theorem d_m_readOne_92 : decode prog_10_method_19_code 92 = .ok (.iload_n 3, 1) := by decide +kernel
theorem d_m_readOne_93 : decode prog_10_method_19_code 93 = .ok (.invokestatic 157, 3) := by decide +kernel
theorem d_m_readOne_96 : decode prog_10_method_19_code 96 = .ok (.ifCond .lt 16, 3) := by decide +kernel
theorem d_m_readOne_99 : decode prog_10_method_19_code 99 = .ok (.aload_n 0, 1) := by decide +kernel
theorem d_m_readOne_100 : decode prog_10_method_19_code 100 = .ok (.getfield 131, 3) := by decide +kernel
theorem d_m_readOne_103 : decode prog_10_method_19_code 103 = .ok (.ifCond .eq 15, 3) := by decide +kernel
theorem d_m_readOne_106 : decode prog_10_method_19_code 106 = .ok (.iload_n 3, 1) := by decide +kernel
theorem d_m_readOne_107 : decode prog_10_method_19_code 107 = .ok (.bipush 109, 2) := by decide +kernel
theorem d_m_readOne_109 : decode prog_10_method_19_code 109 = .ok (.if_icmp .eq 9, 3) := by decide +kernel
theorem d_m_readOne_112 : decode prog_10_method_19_code 112 = .ok (.aload_n 0, 1) := by decide +kernel
theorem d_m_readOne_113 : decode prog_10_method_19_code 113 = .ok (.iload_n 1, 1) := by decide +kernel
theorem d_m_readOne_114 : decode prog_10_method_19_code 114 = .ok (.putfield 97, 3) := by decide +kernel
theorem d_m_readOne_117 : decode prog_10_method_19_code 117 = .ok (.return_, 1) := by decide +kernel
theorem d_m_readOne_118 : decode prog_10_method_19_code 118 = .ok (.aload_n 0, 1) := by decide +kernel
theorem d_m_readOne_119 : decode prog_10_method_19_code 119 = .ok (.iload_n 2, 1) := by decide +kernel
theorem d_m_readOne_120 : decode prog_10_method_19_code 120 = .ok (.iload_n 1, 1) := by decide +kernel
theorem d_m_readOne_121 : decode prog_10_method_19_code 121 = .ok (.invokevirtual 179, 3) := by decide +kernel
theorem d_m_readOne_124 : decode prog_10_method_19_code 124 = .ok (.return_, 1) := by decide +kernel
theorem d_m_read_0 : decode prog_10_method_20_code 0 = .ok (.aload_n 0, 1) := by decide +kernel
theorem d_m_read_1 : decode prog_10_method_20_code 1 = .ok (.iconst 0, 1) := by decide +kernel
theorem d_m_read_2 : decode prog_10_method_20_code 2 = .ok (.putfield 50, 3) := by decide +kernel
theorem d_m_read_5 : decode prog_10_method_20_code 5 = .ok (.aload_n 0, 1) := by decide +kernel
theorem d_m_read_6 : decode prog_10_method_20_code 6 = .ok (.iconst 0, 1) := by decide +kernel
theorem d_m_read_7 : decode prog_10_method_20_code 7 = .ok (.putfield 69, 3) := by decide +kernel
theorem d_m_read_10 : decode prog_10_method_20_code 10 = .ok (.aload_n 0, 1) := by decide +kernel
theorem d_m_read_11 : decode prog_10_method_20_code 11 = .ok (.iconst (-1), 1) := by decide +kernel
theorem d_m_read_12 : decode prog_10_method_20_code 12 = .ok (.putfield 97, 3) := by decide +kernel
theorem d_m_read_15 : decode prog_10_method_20_code 15 = .ok (.aload_n 0, 1) := by decide +kernel
theorem d_m_read_16 : decode prog_10_method_20_code 16 = .ok (.iconst 0, 1) := by decide +kernel
theorem d_m_read_17 : decode prog_10_method_20_code 17 = .ok (.putfield 135, 3) := by decide +kernel
theorem d_m_read_20 : decode prog_10_method_20_code 20 = .ok (.aload_n 0, 1) := by decide +kernel
theorem d_m_read_21 : decode prog_10_method_20_code 21 = .ok (.iconst 0, 1) := by decide +kernel
theorem d_m_read_22 : decode prog_10_method_20_code 22 = .ok (.putfield 124, 3) := by decide +kernel
theorem d_m_read_25 : decode prog_10_method_20_code 25 = .ok (.aload_n 0, 1) := by decide +kernel
theorem d_m_read_26 : decode prog_10_method_20_code 26 = .ok (.iconst 1, 1) := by decide +kernel
theorem d_m_read_27 : decode prog_10_method_20_code 27 = .ok (.putfield 131, 3) := by decide +kernel
theorem d_m_read_30 : decode prog_10_method_20_code 30 = .ok (.aload_n 0, 1) := by decide +kernel
theorem d_m_read_31 : decode prog_10_method_20_code 31 = .ok (.iconst 0, 1) := by decide +kernel
theorem d_m_read_32 : decode prog_10_method_20_code 32 = .ok (.putfield 148, 3) := by decide +kernel
theorem d_m_read_35 : decode prog_10_method_20_code 35 = .ok (.aload_n 0, 1) := by decide +kernel
theorem d_m_read_36 : decode prog_10_method_20_code 36 = .ok (.lconst 0, 1) := by decide +kernel
theorem d_m_read_37 : decode prog_10_method_20_code 37 = .ok (.putfield 142, 3) := by decide +kernel
theorem d_m_read_40 : decode prog_10_method_20_code 40 = .ok (.aload_n 0, 1) := by decide +kernel
theorem d_m_read_41 : decode prog_10_method_20_code 41 = .ok (.lconst 0, 1) := by decide +kernel
theorem d_m_read_42 : decode prog_10_method_20_code 42 = .ok (.putfield 145, 3) := by decide +kernel
theorem d_m_read_45 : decode prog_10_method_20_code 45 = .ok (.aload_n 0, 1) := by decide +kernel
theorem d_m_read_46 : decode prog_10_method_20_code 46 = .ok (.lconst 0, 1) := by decide +kernel
theorem d_m_read_47 : decode prog_10_method_20_code 47 = .ok (.putfield 165, 3) := by decide +kernel
theorem d_m_read_50 : decode prog_10_method_20_code 50 = .ok (.aload_n 0, 1) := by decide +kernel
theorem d_m_read_51 : decode prog_10_method_20_code 51 = .ok (.lconst 0, 1) := by decide +kernel
theorem d_m_read_52 : decode prog_10_method_20_code 52 = .ok (.putfield 168, 3) := by decide +kernel
theorem d_m_read_55 : decode prog_10_method_20_code 55 = .ok (.iconst 0, 1) := by decide +kernel
theorem d_m_read_56 : decode prog_10_method_20_code 56 = .ok (.istore_n 1, 1) := by decide +kernel
theorem d_m_read_57 : decode prog_10_method_20_code 57 = .ok (.iload_n 1, 1) := by decide +kernel
theorem d_m_read_58 : decode prog_10_method_20_code 58 = .ok (.bipush 6, 2) := by decide +kernel
theorem d_m_read_60 : decode prog_10_method_20_code 60 = .ok (.if_icmp .ge 31, 3) := by decide +kernel
theorem d_m_read_63 : decode prog_10_method_20_code 63 = .ok (.aload_n 0, 1) := by decide +kernel
theorem d_m_read_64 : decode prog_10_method_20_code 64 = .ok (.getfield 25, 3) := by decide +kernel
theorem d_m_read_67 : decode prog_10_method_20_code 67 = .ok (.iload_n 1, 1) := by decide +kernel
theorem d_m_read_68 : decode prog_10_method_20_code 68 = .ok (.iload_n 1, 1) := by decide +kernel
theorem d_m_read_69 : decode prog_10_method_20_code 69 = .ok (.ifCond .eq 8, 3) := by decide +kernel
theorem d_m_read_72 : decode prog_10_method_20_code 72 = .ok (.iload_n 1, 1) := by decide +kernel
theorem d_m_read_73 : decode prog_10_method_20_code 73 = .ok (.iconst 3, 1) := by decide +kernel
theorem d_m_read_74 : decode prog_10_method_20_code 74 = .ok (.if_icmp .ne 9, 3) := by decide +kernel
theorem d_m_read_77 : decode prog_10_method_20_code 77 = .ok (.ldc2_w 108, 3) := by decide +kernel
theorem d_m_read_80 : decode prog_10_method_20_code 80 = .ok (.goto 4, 3) := by decide +kernel
theorem d_m_read_83 : decode prog_10_method_20_code 83 = .ok (.lconst 0, 1) := by decide +kernel
theorem d_m_read_84 : decode prog_10_method_20_code 84 = .ok (.lastore, 1) := by decide +kernel
theorem d_m_read_85 : decode prog_10_method_20_code 85 = .ok (.iinc 1 1, 3) := by decide +kernel
theorem d_m_read_88 : decode prog_10_method_20_code 88 = .ok (.goto (-31), 3) := by decide +kernel
theorem d_m_read_91 : decode prog_10_method_20_code 91 = .ok (.aload_n 0, 1) := by decide +kernel
theorem d_m_read_92 : decode prog_10_method_20_code 92 = .ok (.invokevirtual 90, 3) := by decide +kernel
theorem d_m_read_95 : decode prog_10_method_20_code 95 = .ok (.aload_n 0, 1) := by decide +kernel
theorem d_m_read_96 : decode prog_10_method_20_code 96 = .ok (.getfield 69, 3) := by decide +kernel
theorem d_m_read_99 : decode prog_10_method_20_code 99 = .ok (.aload_n 0, 1) := by decide +kernel
theorem d_m_read_100 : decode prog_10_method_20_code 100 = .ok (.getfield 66, 3) := by decide +kernel
theorem d_m_read_103 : decode prog_10_method_20_code 103 = .ok (.if_icmp .ge 21, 3) := by decide +kernel
theorem d_m_read_106 : decode prog_10_method_20_code 106 = .ok (.aload_n 0, 1) := by decide +kernel
theorem d_m_read_107 : decode prog_10_method_20_code 107 = .ok (.getfield 97, 3) := by decide +kernel
theorem d_m_read_110 : decode prog_10_method_20_code 110 = .ok (.ifCond .ge 14, 3) := by decide +kernel
theorem d_m_read_113 : decode prog_10_method_20_code 113 = .ok (.aload_n 0, 1) := by decide +kernel
theorem d_m_read_114 : decode prog_10_method_20_code 114 = .ok (.invokevirtual 183, 3) := by decide +kernel
theorem d_m_read_117 : decode prog_10_method_20_code 117 = .ok (.aload_n 0, 1) := by decide +kernel
theorem d_m_read_118 : decode prog_10_method_20_code 118 = .ok (.invokevirtual 90, 3) := by decide +kernel
theorem d_m_read_121 : decode prog_10_method_20_code 121 = .ok (.goto (-26), 3) := by decide +kernel
theorem d_m_read_124 : decode prog_10_method_20_code 124 = .ok (.aload_n 0, 1) := by decide +kernel
theorem d_m_read_125 : decode prog_10_method_20_code 125 = .ok (.getfield 97, 3) := by decide +kernel
theorem d_m_read_128 : decode prog_10_method_20_code 128 = .ok (.ifCond .ge 18, 3) := by decide +kernel
theorem d_m_read_131 : decode prog_10_method_20_code 131 = .ok (.aload_n 0, 1) := by decide +kernel
theorem d_m_read_132 : decode prog_10_method_20_code 132 = .ok (.getfield 124, 3) := by decide +kernel
theorem d_m_read_135 : decode prog_10_method_20_code 135 = .ok (.ifCond .le 11, 3) := by decide +kernel
theorem d_m_read_138 : decode prog_10_method_20_code 138 = .ok (.aload_n 0, 1) := by decide +kernel
theorem d_m_read_139 : decode prog_10_method_20_code 139 = .ok (.aload_n 0, 1) := by decide +kernel
theorem d_m_read_140 : decode prog_10_method_20_code 140 = .ok (.getfield 66, 3) := by decide +kernel
theorem d_m_read_143 : decode prog_10_method_20_code 143 = .ok (.putfield 97, 3) := by decide +kernel
theorem d_m_read_146 : decode prog_10_method_20_code 146 = .ok (.aload_n 0, 1) := by decide +kernel
theorem d_m_read_147 : decode prog_10_method_20_code 147 = .ok (.iconst 0, 1) := by decide +kernel
theorem d_m_read_148 : decode prog_10_method_20_code 148 = .ok (.putfield 66, 3) := by decide +kernel
theorem d_m_read_151 : decode prog_10_method_20_code 151 = .ok (.aload_n 0, 1) := by decide +kernel
theorem d_m_read_152 : decode prog_10_method_20_code 152 = .ok (.getfield 97, 3) := by decide +kernel
theorem d_m_read_155 : decode prog_10_method_20_code 155 = .ok (.ifCond .lt 10, 3) := by decide +kernel
theorem d_m_read_158 : decode prog_10_method_20_code 158 = .ok (.iconst (-1), 1) := by decide +kernel
theorem d_m_read_159 : decode prog_10_method_20_code 159 = .ok (.aload_n 0, 1) := by decide +kernel
theorem d_m_read_160 : decode prog_10_method_20_code 160 = .ok (.getfield 97, 3) := by decide +kernel
theorem d_m_read_163 : decode prog_10_method_20_code 163 = .ok (.isub, 1) := by decide +kernel
theorem d_m_read_164 : decode prog_10_method_20_code 164 = .ok (.ireturn, 1) := by decide +kernel
theorem d_m_read_165 : decode prog_10_method_20_code 165 = .ok (.aload_n 0, 1) := by decide +kernel
theorem d_m_read_166 : decode prog_10_method_20_code 166 = .ok (.aload_n 0, 1) := by decide +kernel
theorem d_m_read_167 : decode prog_10_method_20_code 167 = .ok (.getfield 135, 3) := by decide +kernel
theorem d_m_read_170 : decode prog_10_method_20_code 170 = .ok (.putfield 186, 3) := by decide +kernel
theorem d_m_read_173 : decode prog_10_method_20_code 173 = .ok (.iconst 0, 1) := by decide +kernel
theorem d_m_read_174 : decode prog_10_method_20_code 174 = .ok (.istore_n 1, 1) := by decide +kernel
theorem d_m_read_175 : decode prog_10_method_20_code 175 = .ok (.iload_n 1, 1) := by decide +kernel
theorem d_m_read_176 : decode prog_10_method_20_code 176 = .ok (.aload_n 0, 1) := by decide +kernel
theorem d_m_read_177 : decode prog_10_method_20_code 177 = .ok (.getfield 135, 3) := by decide +kernel
theorem d_m_read_180 : decode prog_10_method_20_code 180 = .ok (.if_icmp .ge 57, 3) := by decide +kernel
theorem d_m_read_183 : decode prog_10_method_20_code 183 = .ok (.aload_n 0, 1) := by decide +kernel
theorem d_m_read_184 : decode prog_10_method_20_code 184 = .ok (.getfield 13, 3) := by decide +kernel
theorem d_m_read_187 : decode prog_10_method_20_code 187 = .ok (.iload_n 1, 1) := by decide +kernel
theorem d_m_read_188 : decode prog_10_method_20_code 188 = .ok (.aload_n 0, 1) := by decide +kernel
theorem d_m_read_189 : decode prog_10_method_20_code 189 = .ok (.getfield 19, 3) := by decide +kernel
theorem d_m_read_192 : decode prog_10_method_20_code 192 = .ok (.iload_n 1, 1) := by decide +kernel
theorem d_m_read_193 : decode prog_10_method_20_code 193 = .ok (.iaload, 1) := by decide +kernel
theorem d_m_read_194 : decode prog_10_method_20_code 194 = .ok (.iastore, 1) := by decide +kernel
theorem d_m_read_195 : decode prog_10_method_20_code 195 = .ok (.iconst 0, 1) := by decide +kernel
theorem d_m_read_196 : decode prog_10_method_20_code 196 = .ok (.istore_n 2, 1) := by decide +kernel
theorem d_m_read_197 : decode prog_10_method_20_code 197 = .ok (.iload_n 2, 1) := by decide +kernel
theorem d_m_read_198 : decode prog_10_method_20_code 198 = .ok (.bipush 6, 2) := by decide +kernel
theorem d_m_read_200 : decode prog_10_method_20_code 200 = .ok (.if_icmp .ge 31, 3) := by decide +kernel
theorem d_m_read_203 : decode prog_10_method_20_code 203 = .ok (.aload_n 0, 1) := by decide +kernel
theorem d_m_read_204 : decode prog_10_method_20_code 204 = .ok (.getfield 16, 3) := by decide +kernel
theorem d_m_read_207 : decode prog_10_method_20_code 207 = .ok (.bipush 6, 2) := by decide +kernel
theorem d_m_read_209 : decode prog_10_method_20_code 209 = .ok (.iload_n 1, 1) := by decide +kernel
theorem d_m_read_210 : decode prog_10_method_20_code 210 = .ok (.imul, 1) := by decide +kernel
theorem d_m_read_211 : decode prog_10_method_20_code 211 = .ok (.iload_n 2, 1) := by decide +kernel
theorem d_m_read_212 : decode prog_10_method_20_code 212 = .ok (.iadd, 1) := by decide +kernel
theorem d_m_read_213 : decode prog_10_method_20_code 213 = .ok (.aload_n 0, 1) := by decide +kernel
theorem d_m_read_214 : decode prog_10_method_20_code 214 = .ok (.getfield 22, 3) := by decide +kernel
theorem d_m_read_217 : decode prog_10_method_20_code 217 = .ok (.bipush 6, 2) := by decide +kernel
theorem d_m_read_219 : decode prog_10_method_20_code 219 = .ok (.iload_n 1, 1) := by decide +kernel
theorem d_m_read_220 : decode prog_10_method_20_code 220 = .ok (.imul, 1) := by decide +kernel
theorem d_m_read_221 : decode prog_10_method_20_code 221 = .ok (.iload_n 2, 1) := by decide +kernel
theorem d_m_read_222 : decode prog_10_method_20_code 222 = .ok (.iadd, 1) := by decide +kernel
theorem d_m_read_223 : decode prog_10_method_20_code 223 = .ok (.iaload, 1) := by decide +kernel
theorem d_m_read_224 : decode prog_10_method_20_code 224 = .ok (.iastore, 1) := by decide +kernel
theorem d_m_read_225 : decode prog_10_method_20_code 225 = .ok (.iinc 2 1, 3) := by decide +kernel
theorem d_m_read_228 : decode prog_10_method_20_code 228 = .ok (.goto (-31), 3) := by decide +kernel
theorem d_m_read_231 : decode prog_10_method_20_code 231 = .ok (.iinc 1 1, 3) := by decide +kernel
theorem d_m_read_234 : decode prog_10_method_20_code 234 = .ok (.goto (-59), 3) := by decide +kernel
theorem d_m_read_237 : decode prog_10_method_20_code 237 = .ok (.aload_n 0, 1) := by decide +kernel
theorem d_m_read_238 : decode prog_10_method_20_code 238 = .ok (.getfield 186, 3) := by decide +kernel
theorem d_m_read_241 : decode prog_10_method_20_code 241 = .ok (.ireturn, 1) := by decide +kernel
theorem d_m_hasMove_0 : decode prog_10_method_21_code 0 = .ok (.iconst 0, 1) := by decide +kernel
theorem d_m_hasMove_1 : decode prog_10_method_21_code 1 = .ok (.istore_n 1, 1) := by decide +kernel
theorem d_m_hasMove_2 : decode prog_10_method_21_code 2 = .ok (.iconst 0, 1) := by decide +kernel
theorem d_m_hasMove_3 : decode prog_10_method_21_code 3 = .ok (.istore_n 2, 1) := by decide +kernel
theorem d_m_hasMove_4 : decode prog_10_method_21_code 4 = .ok (.iload_n 2, 1) := by decide +kernel
theorem d_m_hasMove_5 : decode prog_10_method_21_code 5 = .ok (.aload_n 0, 1) := by decide +kernel
theorem d_m_hasMove_6 : decode prog_10_method_21_code 6 = .ok (.getfield 186, 3) := by decide +kernel
theorem d_m_hasMove_9 : decode prog_10_method_21_code 9 = .ok (.if_icmp .ge 28, 3) := by decide +kernel
theorem d_m_hasMove_12 : decode prog_10_method_21_code 12 = .ok (.iload_n 1, 1) := by decide +kernel
theorem d_m_hasMove_13 : decode prog_10_method_21_code 13 = .ok (.ifCond .ne 12, 3) := by decide +kernel
theorem d_m_hasMove_16 : decode prog_10_method_21_code 16 = .ok (.aload_n 0, 1) := by decide +kernel
theorem d_m_hasMove_17 : decode prog_10_method_21_code 17 = .ok (.getfield 13, 3) := by decide +kernel
theorem d_m_hasMove_20 : decode prog_10_method_21_code 20 = .ok (.iload_n 2, 1) := by decide +kernel
theorem d_m_hasMove_21 : decode prog_10_method_21_code 21 = .ok (.iaload, 1) := by decide +kernel
theorem d_m_hasMove_22 : decode prog_10_method_21_code 22 = .ok (.ifCond .ne 7, 3) := by decide +kernel
theorem d_m_hasMove_25 : decode prog_10_method_21_code 25 = .ok (.iconst 1, 1) := by decide +kernel
theorem d_m_hasMove_26 : decode prog_10_method_21_code 26 = .ok (.goto 4, 3) := by decide +kernel
theorem d_m_hasMove_29 : decode prog_10_method_21_code 29 = .ok (.iconst 0, 1) := by decide +kernel
theorem d_m_hasMove_30 : decode prog_10_method_21_code 30 = .ok (.istore_n 1, 1) := by decide +kernel
theorem d_m_hasMove_31 : decode prog_10_method_21_code 31 = .ok (.iinc 2 1, 3) := by decide +kernel
theorem d_m_hasMove_34 : decode prog_10_method_21_code 34 = .ok (.goto (-30), 3) := by decide +kernel
theorem d_m_hasMove_37 : decode prog_10_method_21_code 37 = .ok (.iload_n 1, 1) := by decide +kernel
theorem d_m_hasMove_38 : decode prog_10_method_21_code 38 = .ok (.ireturn, 1) := by decide +kernel
theorem d_m_isNumber_0 : decode prog_10_method_22_code 0 = .ok (.iload_n 0, 1) := by decide +kernel
theorem d_m_isNumber_1 : decode prog_10_method_22_code 1 = .ok (.i2l, 1) := by decide +kernel
theorem d_m_isNumber_2 : decode prog_10_method_22_code 2 = .ok (.ldc2_w 117, 3) := by decide +kernel
theorem d_m_isNumber_5 : decode prog_10_method_22_code 5 = .ok (.ldc2_w 119, 3) := by decide +kernel
theorem d_m_isNumber_8 : decode prog_10_method_22_code 8 = .ok (.invokestatic 62, 3) := by decide +kernel
theorem d_m_isNumber_11 : decode prog_10_method_22_code 11 = .ok (.ireturn, 1) := by decide +kernel
theorem d_m_put_0 : decode prog_10_method_23_code 0 = .ok (.aload_n 0, 1) := by decide +kernel
theorem d_m_put_1 : decode prog_10_method_23_code 1 = .ok (.getfield 16, 3) := by decide +kernel
theorem d_m_put_4 : decode prog_10_method_23_code 4 = .ok (.bipush 6, 2) := by decide +kernel
theorem d_m_put_6 : decode prog_10_method_23_code 6 = .ok (.aload_n 0, 1) := by decide +kernel
theorem d_m_put_7 : decode prog_10_method_23_code 7 = .ok (.getfield 186, 3) := by decide +kernel
theorem d_m_put_10 : decode prog_10_method_23_code 10 = .ok (.imul, 1) := by decide +kernel
theorem d_m_put_11 : decode prog_10_method_23_code 11 = .ok (.iload_n 1, 1) := by decide +kernel
theorem d_m_put_12 : decode prog_10_method_23_code 12 = .ok (.iadd, 1) := by decide +kernel
theorem d_m_put_13 : decode prog_10_method_23_code 13 = .ok (.iload_n 2, 1) := by decide +kernel
theorem d_m_put_14 : decode prog_10_method_23_code 14 = .ok (.iastore, 1) := by decide +kernel
theorem d_m_put_15 : decode prog_10_method_23_code 15 = .ok (.return_, 1) := by decide +kernel
theorem d_m_add_0 : decode prog_10_method_24_code 0 = .ok (.aload_n 0, 1) := by decide +kernel
theorem d_m_add_1 : decode prog_10_method_24_code 1 = .ok (.getfield 13, 3) := by decide +kernel
theorem d_m_add_4 : decode prog_10_method_24_code 4 = .ok (.aload_n 0, 1) := by decide +kernel
theorem d_m_add_5 : decode prog_10_method_24_code 5 = .ok (.getfield 186, 3) := by decide +kernel
theorem d_m_add_8 : decode prog_10_method_24_code 8 = .ok (.iload_n 1, 1) := by decide +kernel
theorem d_m_add_9 : decode prog_10_method_24_code 9 = .ok (.iastore, 1) := by decide +kernel
theorem d_m_add_10 : decode prog_10_method_24_code 10 = .ok (.aload_n 0, 1) := by decide +kernel
theorem d_m_add_11 : decode prog_10_method_24_code 11 = .ok (.dup, 1) := by decide +kernel
theorem d_m_add_12 : decode prog_10_method_24_code 12 = .ok (.getfield 186, 3) := by decide +kernel
theorem d_m_add_15 : decode prog_10_method_24_code 15 = .ok (.iconst 1, 1) := by decide +kernel
theorem d_m_add_16 : decode prog_10_method_24_code 16 = .ok (.iadd, 1) := by decide +kernel
theorem d_m_add_17 : decode prog_10_method_24_code 17 = .ok (.putfield 186, 3) := by decide +kernel
theorem d_m_add_20 : decode prog_10_method_24_code 20 = .ok (.aload_n 0, 1) := by decide +kernel
theorem d_m_add_21 : decode prog_10_method_24_code 21 = .ok (.getfield 186, 3) := by decide +kernel
theorem d_m_add_24 : decode prog_10_method_24_code 24 = .ok (.ireturn, 1) := by decide +kernel
theorem d_m_move_0 : decode prog_10_method_25_code 0 = .ok (.aload_n 0, 1) := by decide +kernel
theorem d_m_move_1 : decode prog_10_method_25_code 1 = .ok (.iload_n 1, 1) := by decide +kernel
theorem d_m_move_2 : decode prog_10_method_25_code 2 = .ok (.invokestatic 189, 3) := by decide +kernel
theorem d_m_move_5 : decode prog_10_method_25_code 5 = .ok (.ifCond .eq 10, 3) := by decide +kernel
theorem d_m_move_8 : decode prog_10_method_25_code 8 = .ok (.iload_n 2, 1) := by decide +kernel
theorem d_m_move_9 : decode prog_10_method_25_code 9 = .ok (.invokestatic 189, 3) := by decide +kernel
theorem d_m_move_12 : decode prog_10_method_25_code 12 = .ok (.ifCond .ne 7, 3) := by decide +kernel
theorem d_m_move_15 : decode prog_10_method_25_code 15 = .ok (.iconst 1, 1) := by decide +kernel
theorem d_m_move_16 : decode prog_10_method_25_code 16 = .ok (.goto 18, 3) := by decide +kernel
theorem d_m_move_19 : decode prog_10_method_25_code 19 = .ok (.aload_n 0, 1) := by decide +kernel
theorem d_m_move_20 : decode prog_10_method_25_code 20 = .ok (.getfield 186, 3) := by decide +kernel
theorem d_m_move_23 : decode prog_10_method_25_code 23 = .ok (.sipush 150, 3) := by decide +kernel
theorem d_m_move_26 : decode prog_10_method_25_code 26 = .ok (.if_icmp .ne 7, 3) := by decide +kernel
theorem d_m_move_29 : decode prog_10_method_25_code 29 = .ok (.iconst 2, 1) := by decide +kernel
theorem d_m_move_30 : decode prog_10_method_25_code 30 = .ok (.goto 4, 3) := by decide +kernel
theorem d_m_move_33 : decode prog_10_method_25_code 33 = .ok (.iconst 0, 1) := by decide +kernel
theorem d_m_move_34 : decode prog_10_method_25_code 34 = .ok (.putfield 50, 3) := by decide +kernel
theorem d_m_move_37 : decode prog_10_method_25_code 37 = .ok (.aload_n 0, 1) := by decide +kernel
theorem d_m_move_38 : decode prog_10_method_25_code 38 = .ok (.getfield 50, 3) := by decide +kernel
theorem d_m_move_41 : decode prog_10_method_25_code 41 = .ok (.ifCond .le 5, 3) := by decide +kernel
theorem d_m_move_44 : decode prog_10_method_25_code 44 = .ok (.iconst 0, 1) := by decide +kernel
theorem d_m_move_45 : decode prog_10_method_25_code 45 = .ok (.ireturn, 1) := by decide +kernel
theorem d_m_move_46 : decode prog_10_method_25_code 46 = .ok (.aload_n 0, 1) := by decide +kernel
theorem d_m_move_47 : decode prog_10_method_25_code 47 = .ok (.iconst 0, 1) := by decide +kernel
theorem d_m_move_48 : decode prog_10_method_25_code 48 = .ok (.iload_n 1, 1) := by decide +kernel
theorem d_m_move_49 : decode prog_10_method_25_code 49 = .ok (.invokevirtual 192, 3) := by decide +kernel
theorem d_m_move_52 : decode prog_10_method_25_code 52 = .ok (.aload_n 0, 1) := by decide +kernel
theorem d_m_move_53 : decode prog_10_method_25_code 53 = .ok (.iconst 1, 1) := by decide +kernel
theorem d_m_move_54 : decode prog_10_method_25_code 54 = .ok (.iload_n 2, 1) := by decide +kernel
theorem d_m_move_55 : decode prog_10_method_25_code 55 = .ok (.invokevirtual 192, 3) := by decide +kernel
theorem d_m_move_58 : decode prog_10_method_25_code 58 = .ok (.aload_n 0, 1) := by decide +kernel
theorem d_m_move_59 : decode prog_10_method_25_code 59 = .ok (.iconst 0, 1) := by decide +kernel
theorem d_m_move_60 : decode prog_10_method_25_code 60 = .ok (.invokevirtual 195, 3) := by decide +kernel
theorem d_m_move_63 : decode prog_10_method_25_code 63 = .ok (.ireturn, 1) := by decide +kernel
theorem d_m_line_0 : decode prog_10_method_26_code 0 = .ok (.aload_n 0, 1) := by decide +kernel
theorem d_m_line_1 : decode prog_10_method_26_code 1 = .ok (.iload_n 1, 1) := by decide +kernel
theorem d_m_line_2 : decode prog_10_method_26_code 2 = .ok (.invokestatic 189, 3) := by decide +kernel
theorem d_m_line_5 : decode prog_10_method_26_code 5 = .ok (.ifCond .eq 10, 3) := by decide +kernel
theorem d_m_line_8 : decode prog_10_method_26_code 8 = .ok (.iload_n 2, 1) := by decide +kernel
theorem d_m_line_9 : decode prog_10_method_26_code 9 = .ok (.invokestatic 189, 3) := by decide +kernel
theorem d_m_line_12 : decode prog_10_method_26_code 12 = .ok (.ifCond .ne 7, 3) := by decide +kernel
theorem d_m_line_15 : decode prog_10_method_26_code 15 = .ok (.iconst 1, 1) := by decide +kernel
theorem d_m_line_16 : decode prog_10_method_26_code 16 = .ok (.goto 29, 3) := by decide +kernel
theorem d_m_line_19 : decode prog_10_method_26_code 19 = .ok (.aload_n 0, 1) := by decide +kernel
theorem d_m_line_20 : decode prog_10_method_26_code 20 = .ok (.invokevirtual 198, 3) := by decide +kernel
theorem d_m_line_23 : decode prog_10_method_26_code 23 = .ok (.ifCond .ne 7, 3) := by decide +kernel
theorem d_m_line_26 : decode prog_10_method_26_code 26 = .ok (.iconst 2, 1) := by decide +kernel
theorem d_m_line_27 : decode prog_10_method_26_code 27 = .ok (.goto 18, 3) := by decide +kernel
theorem d_m_line_30 : decode prog_10_method_26_code 30 = .ok (.aload_n 0, 1) := by decide +kernel
theorem d_m_line_31 : decode prog_10_method_26_code 31 = .ok (.getfield 186, 3) := by decide +kernel
theorem d_m_line_34 : decode prog_10_method_26_code 34 = .ok (.sipush 150, 3) := by decide +kernel
theorem d_m_line_37 : decode prog_10_method_26_code 37 = .ok (.if_icmp .ne 7, 3) := by decide +kernel
theorem d_m_line_40 : decode prog_10_method_26_code 40 = .ok (.iconst 3, 1) := by decide +kernel
theorem d_m_line_41 : decode prog_10_method_26_code 41 = .ok (.goto 4, 3) := by decide +kernel
theorem d_m_line_44 : decode prog_10_method_26_code 44 = .ok (.iconst 0, 1) := by decide +kernel
theorem d_m_line_45 : decode prog_10_method_26_code 45 = .ok (.putfield 50, 3) := by decide +kernel
theorem d_m_line_48 : decode prog_10_method_26_code 48 = .ok (.aload_n 0, 1) := by decide +kernel
theorem d_m_line_49 : decode prog_10_method_26_code 49 = .ok (.getfield 50, 3) := by decide +kernel
theorem d_m_line_52 : decode prog_10_method_26_code 52 = .ok (.ifCond .le 5, 3) := by decide +kernel
theorem d_m_line_55 : decode prog_10_method_26_code 55 = .ok (.iconst 0, 1) := by decide +kernel
theorem d_m_line_56 : decode prog_10_method_26_code 56 = .ok (.ireturn, 1) := by decide +kernel
theorem d_m_line_57 : decode prog_10_method_26_code 57 = .ok (.aload_n 0, 1) := by decide +kernel
theorem d_m_line_58 : decode prog_10_method_26_code 58 = .ok (.iconst 0, 1) := by decide +kernel
theorem d_m_line_59 : decode prog_10_method_26_code 59 = .ok (.iload_n 1, 1) := by decide +kernel
theorem d_m_line_60 : decode prog_10_method_26_code 60 = .ok (.invokevirtual 192, 3) := by decide +kernel
theorem d_m_line_63 : decode prog_10_method_26_code 63 = .ok (.aload_n 0, 1) := by decide +kernel
theorem d_m_line_64 : decode prog_10_method_26_code 64 = .ok (.iconst 1, 1) := by decide +kernel
theorem d_m_line_65 : decode prog_10_method_26_code 65 = .ok (.iload_n 2, 1) := by decide +kernel
theorem d_m_line_66 : decode prog_10_method_26_code 66 = .ok (.invokevirtual 192, 3) := by decide +kernel
theorem d_m_line_69 : decode prog_10_method_26_code 69 = .ok (.aload_n 0, 1) := by decide +kernel
theorem d_m_line_70 : decode prog_10_method_26_code 70 = .ok (.iconst 1, 1) := by decide +kernel
theorem d_m_line_71 : decode prog_10_method_26_code 71 = .ok (.invokevirtual 195, 3) := by decide +kernel
theorem d_m_line_74 : decode prog_10_method_26_code 74 = .ok (.ireturn, 1) := by decide +kernel
theorem d_m_cubic_0 : decode prog_10_method_27_code 0 = .ok (.iload_n 1, 1) := by decide +kernel
theorem d_m_cubic_1 : decode prog_10_method_27_code 1 = .ok (.invokestatic 189, 3) := by decide +kernel
theorem d_m_cubic_4 : decode prog_10_method_27_code 4 = .ok (.ifCond .eq 45, 3) := by decide +kernel
theorem d_m_cubic_7 : decode prog_10_method_27_code 7 = .ok (.iload_n 2, 1) := by decide +kernel
theorem d_m_cubic_8 : decode prog_10_method_27_code 8 = .ok (.invokestatic 189, 3) := by decide +kernel
theorem d_m_cubic_11 : decode prog_10_method_27_code 11 = .ok (.ifCond .eq 38, 3) := by decide +kernel
theorem d_m_cubic_14 : decode prog_10_method_27_code 14 = .ok (.iload_n 3, 1) := by decide +kernel
theorem d_m_cubic_15 : decode prog_10_method_27_code 15 = .ok (.invokestatic 189, 3) := by decide +kernel
theorem d_m_cubic_18 : decode prog_10_method_27_code 18 = .ok (.ifCond .eq 31, 3) := by decide +kernel
theorem d_m_cubic_21 : decode prog_10_method_27_code 21 = .ok (.iload 4, 2) := by decide +kernel
theorem d_m_cubic_23 : decode prog_10_method_27_code 23 = .ok (.invokestatic 189, 3) := by decide +kernel
theorem d_m_cubic_26 : decode prog_10_method_27_code 26 = .ok (.ifCond .eq 23, 3) := by decide +kernel
theorem d_m_cubic_29 : decode prog_10_method_27_code 29 = .ok (.iload 5, 2) := by decide +kernel
theorem d_m_cubic_31 : decode prog_10_method_27_code 31 = .ok (.invokestatic 189, 3) := by decide +kernel
theorem d_m_cubic_34 : decode prog_10_method_27_code 34 = .ok (.ifCond .eq 15, 3) := by decide +kernel
theorem d_m_cubic_37 : decode prog_10_method_27_code 37 = .ok (.iload 6, 2) := by decide +kernel
theorem d_m_cubic_39 : decode prog_10_method_27_code 39 = .ok (.invokestatic 189, 3) := by decide +kernel
theorem d_m_cubic_42 : decode prog_10_method_27_code 42 = .ok (.ifCond .eq 7, 3) := by decide +kernel
theorem d_m_cubic_45 : decode prog_10_method_27_code 45 = .ok (.iconst 1, 1) := by decide +kernel
theorem d_m_cubic_46 : decode prog_10_method_27_code 46 = .ok (.goto 4, 3) := by decide +kernel
theorem d_m_cubic_49 : decode prog_10_method_27_code 49 = .ok (.iconst 0, 1) := by decide +kernel
theorem d_m_cubic_50 : decode prog_10_method_27_code 50 = .ok (.istore 7, 2) := by decide +kernel
theorem d_m_cubic_52 : decode prog_10_method_27_code 52 = .ok (.aload_n 0, 1) := by decide +kernel
theorem d_m_cubic_53 : decode prog_10_method_27_code 53 = .ok (.iload 7, 2) := by decide +kernel
theorem d_m_cubic_55 : decode prog_10_method_27_code 55 = .ok (.ifCond .ne 7, 3) := by decide +kernel
theorem d_m_cubic_58 : decode prog_10_method_27_code 58 = .ok (.iconst 1, 1) := by decide +kernel
theorem d_m_cubic_59 : decode prog_10_method_27_code 59 = .ok (.goto 29, 3) := by decide +kernel
theorem d_m_cubic_62 : decode prog_10_method_27_code 62 = .ok (.aload_n 0, 1) := by decide +kernel
theorem d_m_cubic_63 : decode prog_10_method_27_code 63 = .ok (.invokevirtual 198, 3) := by decide +kernel
theorem d_m_cubic_66 : decode prog_10_method_27_code 66 = .ok (.ifCond .ne 7, 3) := by decide +kernel
theorem d_m_cubic_69 : decode prog_10_method_27_code 69 = .ok (.iconst 2, 1) := by decide +kernel
theorem d_m_cubic_70 : decode prog_10_method_27_code 70 = .ok (.goto 18, 3) := by decide +kernel
theorem d_m_cubic_73 : decode prog_10_method_27_code 73 = .ok (.aload_n 0, 1) := by decide +kernel
theorem d_m_cubic_74 : decode prog_10_method_27_code 74 = .ok (.getfield 186, 3) := by decide +kernel
theorem d_m_cubic_77 : decode prog_10_method_27_code 77 = .ok (.sipush 150, 3) := by decide +kernel
theorem d_m_cubic_80 : decode prog_10_method_27_code 80 = .ok (.if_icmp .ne 7, 3) := by decide +kernel
theorem d_m_cubic_83 : decode prog_10_method_27_code 83 = .ok (.iconst 3, 1) := by decide +kernel
theorem d_m_cubic_84 : decode prog_10_method_27_code 84 = .ok (.goto 4, 3) := by decide +kernel
theorem d_m_cubic_87 : decode prog_10_method_27_code 87 = .ok (.iconst 0, 1) := by decide +kernel
theorem d_m_cubic_88 : decode prog_10_method_27_code 88 = .ok (.putfield 50, 3) := by decide +kernel
theorem d_m_cubic_91 : decode prog_10_method_27_code 91 = .ok (.aload_n 0, 1) := by decide +kernel
theorem d_m_cubic_92 : decode prog_10_method_27_code 92 = .ok (.getfield 50, 3) := by decide +kernel
theorem d_m_cubic_95 : decode prog_10_method_27_code 95 = .ok (.ifCond .le 5, 3) := by decide +kernel
theorem d_m_cubic_98 : decode prog_10_method_27_code 98 = .ok (.iconst 0, 1) := by decide +kernel
theorem d_m_cubic_99 : decode prog_10_method_27_code 99 = .ok (.ireturn, 1) := by decide +kernel
theorem d_m_cubic_100 : decode prog_10_method_27_code 100 = .ok (.aload_n 0, 1) := by decide +kernel
theorem d_m_cubic_101 : decode prog_10_method_27_code 101 = .ok (.iconst 0, 1) := by decide +kernel
theorem d_m_cubic_102 : decode prog_10_method_27_code 102 = .ok (.iload_n 1, 1) := by decide +kernel
theorem d_m_cubic_103 : decode prog_10_method_27_code 103 = .ok (.invokevirtual 192, 3) := by decide +kernel
theorem d_m_cubic_106 : decode prog_10_method_27_code 106 = .ok (.aload_n 0, 1) := by decide +kernel
theorem d_m_cubic_107 : decode prog_10_method_27_code 107 = .ok (.iconst 1, 1) := by decide +kernel
theorem d_m_cubic_108 : decode prog_10_method_27_code 108 = .ok (.iload_n 2, 1) := by decide +kernel
theorem d_m_cubic_109 : decode prog_10_method_27_code 109 = .ok (.invokevirtual 192, 3) := by decide +kernel
theorem d_m_cubic_112 : decode prog_10_method_27_code 112 = .ok (.aload_n 0, 1) := by decide +kernel
theorem d_m_cubic_113 : decode prog_10_method_27_code 113 = .ok (.iconst 2, 1) := by decide +kernel
theorem d_m_cubic_114 : decode prog_10_method_27_code 114 = .ok (.iload_n 3, 1) := by decide +kernel
theorem d_m_cubic_115 : decode prog_10_method_27_code 115 = .ok (.invokevirtual 192, 3) := by decide +kernel
theorem d_m_cubic_118 : decode prog_10_method_27_code 118 = .ok (.aload_n 0, 1) := by decide +kernel
theorem d_m_cubic_119 : decode prog_10_method_27_code 119 = .ok (.iconst 3, 1) := by decide +kernel
theorem d_m_cubic_120 : decode prog_10_method_27_code 120 = .ok (.iload 4, 2) := by decide +kernel
theorem d_m_cubic_122 : decode prog_10_method_27_code 122 = .ok (.invokevirtual 192, 3) := by decide +kernel
theorem d_m_cubic_125 : decode prog_10_method_27_code 125 = .ok (.aload_n 0, 1) := by decide +kernel
theorem d_m_cubic_126 : decode prog_10_method_27_code 126 = .ok (.iconst 4, 1) := by decide +kernel
theorem d_m_cubic_127 : decode prog_10_method_27_code 127 = .ok (.iload 5, 2) := by decide +kernel
theorem d_m_cubic_129 : decode prog_10_method_27_code 129 = .ok (.invokevirtual 192, 3) := by decide +kernel
theorem d_m_cubic_132 : decode prog_10_method_27_code 132 = .ok (.aload_n 0, 1) := by decide +kernel
theorem d_m_cubic_133 : decode prog_10_method_27_code 133 = .ok (.iconst 5, 1) := by decide +kernel
theorem d_m_cubic_134 : decode prog_10_method_27_code 134 = .ok (.iload 6, 2) := by decide +kernel
theorem d_m_cubic_136 : decode prog_10_method_27_code 136 = .ok (.invokevirtual 192, 3) := by decide +kernel
theorem d_m_cubic_139 : decode prog_10_method_27_code 139 = .ok (.aload_n 0, 1) := by decide +kernel
theorem d_m_cubic_140 : decode prog_10_method_27_code 140 = .ok (.iconst 2, 1) := by decide +kernel
theorem d_m_cubic_141 : decode prog_10_method_27_code 141 = .ok (.invokevirtual 195, 3) := by decide +kernel
theorem d_m_cubic_144 : decode prog_10_method_27_code 144 = .ok (.ireturn, 1) := by decide +kernel
theorem d_m_close_0 : decode prog_10_method_28_code 0 = .ok (.aload_n 0, 1) := by decide +kernel
theorem d_m_close_1 : decode prog_10_method_28_code 1 = .ok (.aload_n 0, 1) := by decide +kernel
theorem d_m_close_2 : decode prog_10_method_28_code 2 = .ok (.invokevirtual 198, 3) := by decide +kernel
theorem d_m_close_5 : decode prog_10_method_28_code 5 = .ok (.ifCond .ne 7, 3) := by decide +kernel
theorem d_m_close_8 : decode prog_10_method_28_code 8 = .ok (.iconst 1, 1) := by decide +kernel
theorem d_m_close_9 : decode prog_10_method_28_code 9 = .ok (.goto 18, 3) := by decide +kernel
theorem d_m_close_12 : decode prog_10_method_28_code 12 = .ok (.aload_n 0, 1) := by decide +kernel
theorem d_m_close_13 : decode prog_10_method_28_code 13 = .ok (.getfield 186, 3) := by decide +kernel
theorem d_m_close_16 : decode prog_10_method_28_code 16 = .ok (.sipush 150, 3) := by decide +kernel
theorem d_m_close_19 : decode prog_10_method_28_code 19 = .ok (.if_icmp .ne 7, 3) := by decide +kernel
theorem d_m_close_22 : decode prog_10_method_28_code 22 = .ok (.iconst 2, 1) := by decide +kernel
theorem d_m_close_23 : decode prog_10_method_28_code 23 = .ok (.goto 4, 3) := by decide +kernel
theorem d_m_close_26 : decode prog_10_method_28_code 26 = .ok (.iconst 0, 1) := by decide +kernel
theorem d_m_close_27 : decode prog_10_method_28_code 27 = .ok (.putfield 50, 3) := by decide +kernel
theorem d_m_close_30 : decode prog_10_method_28_code 30 = .ok (.aload_n 0, 1) := by decide +kernel
theorem d_m_close_31 : decode prog_10_method_28_code 31 = .ok (.getfield 50, 3) := by decide +kernel
theorem d_m_close_34 : decode prog_10_method_28_code 34 = .ok (.ifCond .le 7, 3) := by decide +kernel
theorem d_m_close_37 : decode prog_10_method_28_code 37 = .ok (.iconst 0, 1) := by decide +kernel
theorem d_m_close_38 : decode prog_10_method_28_code 38 = .ok (.goto 8, 3) := by decide +kernel
theorem d_m_close_41 : decode prog_10_method_28_code 41 = .ok (.aload_n 0, 1) := by decide +kernel
theorem d_m_close_42 : decode prog_10_method_28_code 42 = .ok (.iconst 3, 1) := by decide +kernel
theorem d_m_close_43 : decode prog_10_method_28_code 43 = .ok (.invokevirtual 195, 3) := by decide +kernel
theorem d_m_close_46 : decode prog_10_method_28_code 46 = .ok (.ireturn, 1) := by decide +kernel
theorem d_m_command1_0 : decode prog_10_method_29_code 0 = .ok (.aload_n 0, 1) := by decide +kernel
theorem d_m_command1_1 : decode prog_10_method_29_code 1 = .ok (.iload_n 1, 1) := by decide +kernel
theorem d_m_command1_2 : decode prog_10_method_29_code 2 = .ok (.i2l, 1) := by decide +kernel
theorem d_m_command1_3 : decode prog_10_method_29_code 3 = .ok (.lconst 0, 1) := by decide +kernel
theorem d_m_command1_4 : decode prog_10_method_29_code 4 = .ok (.aload_n 0, 1) := by decide +kernel
theorem d_m_command1_5 : decode prog_10_method_29_code 5 = .ok (.getfield 186, 3) := by decide +kernel
theorem d_m_command1_8 : decode prog_10_method_29_code 8 = .ok (.i2l, 1) := by decide +kernel
theorem d_m_command1_9 : decode prog_10_method_29_code 9 = .ok (.lconst 1, 1) := by decide +kernel
theorem d_m_command1_10 : decode prog_10_method_29_code 10 = .ok (.lsub, 1) := by decide +kernel
theorem d_m_command1_11 : decode prog_10_method_29_code 11 = .ok (.invokestatic 62, 3) := by decide +kernel
theorem d_m_command1_14 : decode prog_10_method_29_code 14 = .ok (.ifCond .eq 7, 3) := by decide +kernel
theorem d_m_command1_17 : decode prog_10_method_29_code 17 = .ok (.iconst 0, 1) := by decide +kernel
theorem d_m_command1_18 : decode prog_10_method_29_code 18 = .ok (.goto 4, 3) := by decide +kernel
theorem d_m_command1_21 : decode prog_10_method_29_code 21 = .ok (.iconst 1, 1) := by decide +kernel
theorem d_m_command1_22 : decode prog_10_method_29_code 22 = .ok (.putfield 50, 3) := by decide +kernel
theorem d_m_command1_25 : decode prog_10_method_29_code 25 = .ok (.aload_n 0, 1) := by decide +kernel
theorem d_m_command1_26 : decode prog_10_method_29_code 26 = .ok (.getfield 50, 3) := by decide +kernel
theorem d_m_command1_29 : decode prog_10_method_29_code 29 = .ok (.ifCond .le 7, 3) := by decide +kernel
theorem d_m_command1_32 : decode prog_10_method_29_code 32 = .ok (.iconst 0, 1) := by decide +kernel
theorem d_m_command1_33 : decode prog_10_method_29_code 33 = .ok (.goto 9, 3) := by decide +kernel
theorem d_m_command1_36 : decode prog_10_method_29_code 36 = .ok (.aload_n 0, 1) := by decide +kernel
theorem d_m_command1_37 : decode prog_10_method_29_code 37 = .ok (.getfield 13, 3) := by decide +kernel
theorem d_m_command1_40 : decode prog_10_method_29_code 40 = .ok (.iload_n 1, 1) := by decide +kernel
theorem d_m_command1_41 : decode prog_10_method_29_code 41 = .ok (.iaload, 1) := by decide +kernel
theorem d_m_command1_42 : decode prog_10_method_29_code 42 = .ok (.ireturn, 1) := by decide +kernel
theorem d_m_many_0 : decode prog_10_method_30_code 0 = .ok (.iload_n 0, 1) := by decide +kernel
theorem d_m_many_1 : decode prog_10_method_30_code 1 = .ok (.iconst 2, 1) := by decide +kernel
theorem d_m_many_2 : decode prog_10_method_30_code 2 = .ok (.if_icmp .ne 8, 3) := by decide +kernel
theorem d_m_many_5 : decode prog_10_method_30_code 5 = .ok (.bipush 6, 2) := by decide +kernel
theorem d_m_many_7 : decode prog_10_method_30_code 7 = .ok (.goto 13, 3) := by decide +kernel
theorem d_m_many_10 : decode prog_10_method_30_code 10 = .ok (.iload_n 0, 1) := by decide +kernel
theorem d_m_many_11 : decode prog_10_method_30_code 11 = .ok (.iconst 3, 1) := by decide +kernel
theorem d_m_many_12 : decode prog_10_method_30_code 12 = .ok (.if_icmp .ne 7, 3) := by decide +kernel
theorem d_m_many_15 : decode prog_10_method_30_code 15 = .ok (.iconst 0, 1) := by decide +kernel
theorem d_m_many_16 : decode prog_10_method_30_code 16 = .ok (.goto 4, 3) := by decide +kernel
theorem d_m_many_19 : decode prog_10_method_30_code 19 = .ok (.iconst 2, 1) := by decide +kernel
theorem d_m_many_20 : decode prog_10_method_30_code 20 = .ok (.ireturn, 1) := by decide +kernel
theorem d_m_number_0 : decode prog_10_method_31_code 0 = .ok (.aload_n 0, 1) := by decide +kernel
theorem d_m_number_1 : decode prog_10_method_31_code 1 = .ok (.iload_n 1, 1) := by decide +kernel
theorem d_m_number_2 : decode prog_10_method_31_code 2 = .ok (.i2l, 1) := by decide +kernel
theorem d_m_number_3 : decode prog_10_method_31_code 3 = .ok (.lconst 0, 1) := by decide +kernel
theorem d_m_number_4 : decode prog_10_method_31_code 4 = .ok (.aload_n 0, 1) := by decide +kernel
theorem d_m_number_5 : decode prog_10_method_31_code 5 = .ok (.getfield 186, 3) := by decide +kernel
theorem d_m_number_8 : decode prog_10_method_31_code 8 = .ok (.i2l, 1) := by decide +kernel
theorem d_m_number_9 : decode prog_10_method_31_code 9 = .ok (.lconst 1, 1) := by decide +kernel
theorem d_m_number_10 : decode prog_10_method_31_code 10 = .ok (.lsub, 1) := by decide +kernel
theorem d_m_number_11 : decode prog_10_method_31_code 11 = .ok (.invokestatic 62, 3) := by decide +kernel
theorem d_m_number_14 : decode prog_10_method_31_code 14 = .ok (.ifCond .eq 7, 3) := by decide +kernel
theorem d_m_number_17 : decode prog_10_method_31_code 17 = .ok (.iconst 0, 1) := by decide +kernel
theorem d_m_number_18 : decode prog_10_method_31_code 18 = .ok (.goto 4, 3) := by decide +kernel
theorem d_m_number_21 : decode prog_10_method_31_code 21 = .ok (.iconst 1, 1) := by decide +kernel
theorem d_m_number_22 : decode prog_10_method_31_code 22 = .ok (.putfield 50, 3) := by decide +kernel
theorem d_m_number_25 : decode prog_10_method_31_code 25 = .ok (.aload_n 0, 1) := by decide +kernel
theorem d_m_number_26 : decode prog_10_method_31_code 26 = .ok (.getfield 50, 3) := by decide +kernel
theorem d_m_number_29 : decode prog_10_method_31_code 29 = .ok (.ifCond .ne 33, 3) := by decide +kernel
theorem d_m_number_32 : decode prog_10_method_31_code 32 = .ok (.aload_n 0, 1) := by decide +kernel
theorem d_m_number_33 : decode prog_10_method_31_code 33 = .ok (.iload_n 2, 1) := by decide +kernel
theorem d_m_number_34 : decode prog_10_method_31_code 34 = .ok (.i2l, 1) := by decide +kernel
theorem d_m_number_35 : decode prog_10_method_31_code 35 = .ok (.lconst 0, 1) := by decide +kernel
theorem d_m_number_36 : decode prog_10_method_31_code 36 = .ok (.aload_n 0, 1) := by decide +kernel
theorem d_m_number_37 : decode prog_10_method_31_code 37 = .ok (.getfield 13, 3) := by decide +kernel
theorem d_m_number_40 : decode prog_10_method_31_code 40 = .ok (.iload_n 1, 1) := by decide +kernel
theorem d_m_number_41 : decode prog_10_method_31_code 41 = .ok (.iaload, 1) := by decide +kernel
theorem d_m_number_42 : decode prog_10_method_31_code 42 = .ok (.invokestatic 201, 3) := by decide +kernel
theorem d_m_number_45 : decode prog_10_method_31_code 45 = .ok (.i2l, 1) := by decide +kernel
theorem d_m_number_46 : decode prog_10_method_31_code 46 = .ok (.lconst 1, 1) := by decide +kernel
theorem d_m_number_47 : decode prog_10_method_31_code 47 = .ok (.lsub, 1) := by decide +kernel
theorem d_m_number_48 : decode prog_10_method_31_code 48 = .ok (.invokestatic 62, 3) := by decide +kernel
theorem d_m_number_51 : decode prog_10_method_31_code 51 = .ok (.ifCond .eq 7, 3) := by decide +kernel
theorem d_m_number_54 : decode prog_10_method_31_code 54 = .ok (.iconst 0, 1) := by decide +kernel
theorem d_m_number_55 : decode prog_10_method_31_code 55 = .ok (.goto 4, 3) := by decide +kernel
theorem d_m_number_58 : decode prog_10_method_31_code 58 = .ok (.iconst 1, 1) := by decide +kernel
theorem d_m_number_59 : decode prog_10_method_31_code 59 = .ok (.putfield 50, 3) := by decide +kernel
theorem d_m_number_62 : decode prog_10_method_31_code 62 = .ok (.aload_n 0, 1) := by decide +kernel
theorem d_m_number_63 : decode prog_10_method_31_code 63 = .ok (.getfield 50, 3) := by decide +kernel
theorem d_m_number_66 : decode prog_10_method_31_code 66 = .ok (.ifCond .le 7, 3) := by decide +kernel
theorem d_m_number_69 : decode prog_10_method_31_code 69 = .ok (.iconst 0, 1) := by decide +kernel
theorem d_m_number_70 : decode prog_10_method_31_code 70 = .ok (.goto 14, 3) := by decide +kernel
theorem d_m_number_73 : decode prog_10_method_31_code 73 = .ok (.aload_n 0, 1) := by decide +kernel
theorem d_m_number_74 : decode prog_10_method_31_code 74 = .ok (.getfield 16, 3) := by decide +kernel
theorem d_m_number_77 : decode prog_10_method_31_code 77 = .ok (.bipush 6, 2) := by decide +kernel
theorem d_m_number_79 : decode prog_10_method_31_code 79 = .ok (.iload_n 1, 1) := by decide +kernel
theorem d_m_number_80 : decode prog_10_method_31_code 80 = .ok (.imul, 1) := by decide +kernel
theorem d_m_number_81 : decode prog_10_method_31_code 81 = .ok (.iload_n 2, 1) := by decide +kernel
theorem d_m_number_82 : decode prog_10_method_31_code 82 = .ok (.iadd, 1) := by decide +kernel
theorem d_m_number_83 : decode prog_10_method_31_code 83 = .ok (.iaload, 1) := by decide +kernel
theorem d_m_number_84 : decode prog_10_method_31_code 84 = .ok (.ireturn, 1) := by decide +kernel
theorem d_m_say_0 : decode prog_10_method_32_code 0 = .ok (.aload_n 0, 1) := by decide +kernel
theorem d_m_say_1 : decode prog_10_method_32_code 1 = .ok (.getfield 32, 3) := by decide +kernel
theorem d_m_say_4 : decode prog_10_method_32_code 4 = .ok (.aload_n 0, 1) := by decide +kernel
theorem d_m_say_5 : decode prog_10_method_32_code 5 = .ok (.getfield 204, 3) := by decide +kernel
theorem d_m_say_8 : decode prog_10_method_32_code 8 = .ok (.iload_n 1, 1) := by decide +kernel
theorem d_m_say_9 : decode prog_10_method_32_code 9 = .ok (.iastore, 1) := by decide +kernel
theorem d_m_say_10 : decode prog_10_method_32_code 10 = .ok (.aload_n 0, 1) := by decide +kernel
theorem d_m_say_11 : decode prog_10_method_32_code 11 = .ok (.dup, 1) := by decide +kernel
theorem d_m_say_12 : decode prog_10_method_32_code 12 = .ok (.getfield 204, 3) := by decide +kernel
theorem d_m_say_15 : decode prog_10_method_32_code 15 = .ok (.iconst 1, 1) := by decide +kernel
theorem d_m_say_16 : decode prog_10_method_32_code 16 = .ok (.iadd, 1) := by decide +kernel
theorem d_m_say_17 : decode prog_10_method_32_code 17 = .ok (.putfield 204, 3) := by decide +kernel
theorem d_m_say_20 : decode prog_10_method_32_code 20 = .ok (.return_, 1) := by decide +kernel
theorem d_m_off_0 : decode prog_10_method_34_code 0 = .ok (.ldc2_w 108, 3) := by decide +kernel
theorem d_m_off_3 : decode prog_10_method_34_code 3 = .ok (.lload_n 0, 1) := by decide +kernel
theorem d_m_off_4 : decode prog_10_method_34_code 4 = .ok (.lmul, 1) := by decide +kernel
theorem d_m_off_5 : decode prog_10_method_34_code 5 = .ok (.lload_n 2, 1) := by decide +kernel
theorem d_m_off_6 : decode prog_10_method_34_code 6 = .ok (.lconst 0, 1) := by decide +kernel
theorem d_m_off_7 : decode prog_10_method_34_code 7 = .ok (.lcmp, 1) := by decide +kernel
theorem d_m_off_8 : decode prog_10_method_34_code 8 = .ok (.ifCond .ge 8, 3) := by decide +kernel
theorem d_m_off_11 : decode prog_10_method_34_code 11 = .ok (.lload_n 2, 1) := by decide +kernel
theorem d_m_off_12 : decode prog_10_method_34_code 12 = .ok (.lneg, 1) := by decide +kernel
theorem d_m_off_13 : decode prog_10_method_34_code 13 = .ok (.goto 4, 3) := by decide +kernel
theorem d_m_off_16 : decode prog_10_method_34_code 16 = .ok (.lload_n 2, 1) := by decide +kernel
theorem d_m_off_17 : decode prog_10_method_34_code 17 = .ok (.lload 4, 2) := by decide +kernel
theorem d_m_off_19 : decode prog_10_method_34_code 19 = .ok (.lmul, 1) := by decide +kernel
theorem d_m_off_20 : decode prog_10_method_34_code 20 = .ok (.lsub, 1) := by decide +kernel
theorem d_m_off_21 : decode prog_10_method_34_code 21 = .ok (.lstore 6, 2) := by decide +kernel
theorem d_m_off_23 : decode prog_10_method_34_code 23 = .ok (.lload 6, 2) := by decide +kernel
theorem d_m_off_25 : decode prog_10_method_34_code 25 = .ok (.lconst 0, 1) := by decide +kernel
theorem d_m_off_26 : decode prog_10_method_34_code 26 = .ok (.lcmp, 1) := by decide +kernel
theorem d_m_off_27 : decode prog_10_method_34_code 27 = .ok (.ifCond .ge 9, 3) := by decide +kernel
theorem d_m_off_30 : decode prog_10_method_34_code 30 = .ok (.lload 6, 2) := by decide +kernel
theorem d_m_off_32 : decode prog_10_method_34_code 32 = .ok (.lneg, 1) := by decide +kernel
theorem d_m_off_33 : decode prog_10_method_34_code 33 = .ok (.goto 5, 3) := by decide +kernel
theorem d_m_off_36 : decode prog_10_method_34_code 36 = .ok (.lload 6, 2) := by decide +kernel
theorem d_m_off_38 : decode prog_10_method_34_code 38 = .ok (.lreturn, 1) := by decide +kernel
theorem d_m_sayDigits_0 : decode prog_10_method_36_code 0 = .ok (.lconst 1, 1) := by decide +kernel
theorem d_m_sayDigits_1 : decode prog_10_method_36_code 1 = .ok (.lstore 4, 2) := by decide +kernel
theorem d_m_sayDigits_3 : decode prog_10_method_36_code 3 = .ok (.iconst 1, 1) := by decide +kernel
theorem d_m_sayDigits_4 : decode prog_10_method_36_code 4 = .ok (.istore 6, 2) := by decide +kernel
theorem d_m_sayDigits_6 : decode prog_10_method_36_code 6 = .ok (.lload_n 1, 1) := by decide +kernel
theorem d_m_sayDigits_7 : decode prog_10_method_36_code 7 = .ok (.lload 4, 2) := by decide +kernel
theorem d_m_sayDigits_9 : decode prog_10_method_36_code 9 = .ok (.ldiv, 1) := by decide +kernel
theorem d_m_sayDigits_10 : decode prog_10_method_36_code 10 = .ok (.ldc2_w 223, 3) := by decide +kernel
theorem d_m_sayDigits_13 : decode prog_10_method_36_code 13 = .ok (.lcmp, 1) := by decide +kernel
theorem d_m_sayDigits_14 : decode prog_10_method_36_code 14 = .ok (.ifCond .gt 9, 3) := by decide +kernel
theorem d_m_sayDigits_17 : decode prog_10_method_36_code 17 = .ok (.iload 6, 2) := by decide +kernel
theorem d_m_sayDigits_19 : decode prog_10_method_36_code 19 = .ok (.iload_n 3, 1) := by decide +kernel
theorem d_m_sayDigits_20 : decode prog_10_method_36_code 20 = .ok (.if_icmp .ge 17, 3) := by decide +kernel
theorem d_m_sayDigits_23 : decode prog_10_method_36_code 23 = .ok (.lload 4, 2) := by decide +kernel
theorem d_m_sayDigits_25 : decode prog_10_method_36_code 25 = .ok (.ldc2_w 86, 3) := by decide +kernel
theorem d_m_sayDigits_28 : decode prog_10_method_36_code 28 = .ok (.lmul, 1) := by decide +kernel
theorem d_m_sayDigits_29 : decode prog_10_method_36_code 29 = .ok (.lstore 4, 2) := by decide +kernel
theorem d_m_sayDigits_31 : decode prog_10_method_36_code 31 = .ok (.iinc 6 1, 3) := by decide +kernel
theorem d_m_sayDigits_34 : decode prog_10_method_36_code 34 = .ok (.goto (-28), 3) := by decide +kernel
theorem d_m_sayDigits_37 : decode prog_10_method_36_code 37 = .ok (.lload 4, 2) := by decide +kernel
theorem d_m_sayDigits_39 : decode prog_10_method_36_code 39 = .ok (.lconst 0, 1) := by decide +kernel
theorem d_m_sayDigits_40 : decode prog_10_method_36_code 40 = .ok (.lcmp, 1) := by decide +kernel
theorem d_m_sayDigits_41 : decode prog_10_method_36_code 41 = .ok (.ifCond .le 31, 3) := by decide +kernel
theorem d_m_sayDigits_44 : decode prog_10_method_36_code 44 = .ok (.aload_n 0, 1) := by decide +kernel
theorem d_m_sayDigits_45 : decode prog_10_method_36_code 45 = .ok (.ldc2_w 88, 3) := by decide +kernel
theorem d_m_sayDigits_48 : decode prog_10_method_36_code 48 = .ok (.lload_n 1, 1) := by decide +kernel
theorem d_m_sayDigits_49 : decode prog_10_method_36_code 49 = .ok (.lload 4, 2) := by decide +kernel
theorem d_m_sayDigits_51 : decode prog_10_method_36_code 51 = .ok (.ldiv, 1) := by decide +kernel
theorem d_m_sayDigits_52 : decode prog_10_method_36_code 52 = .ok (.ldc2_w 86, 3) := by decide +kernel
theorem d_m_sayDigits_55 : decode prog_10_method_36_code 55 = .ok (.lrem, 1) := by decide +kernel
theorem d_m_sayDigits_56 : decode prog_10_method_36_code 56 = .ok (.ladd, 1) := by decide +kernel
theorem d_m_sayDigits_57 : decode prog_10_method_36_code 57 = .ok (.l2i, 1) := by decide +kernel
theorem d_m_sayDigits_58 : decode prog_10_method_36_code 58 = .ok (.invokevirtual 216, 3) := by decide +kernel
theorem d_m_sayDigits_61 : decode prog_10_method_36_code 61 = .ok (.lload 4, 2) := by decide +kernel
theorem d_m_sayDigits_63 : decode prog_10_method_36_code 63 = .ok (.ldc2_w 86, 3) := by decide +kernel
theorem d_m_sayDigits_66 : decode prog_10_method_36_code 66 = .ok (.ldiv, 1) := by decide +kernel
theorem d_m_sayDigits_67 : decode prog_10_method_36_code 67 = .ok (.lstore 4, 2) := by decide +kernel
theorem d_m_sayDigits_69 : decode prog_10_method_36_code 69 = .ok (.goto (-32), 3) := by decide +kernel
theorem d_m_sayDigits_72 : decode prog_10_method_36_code 72 = .ok (.return_, 1) := by decide +kernel
theorem d_m_charAt_0 : decode prog_10_method_38_code 0 = .ok (.aload_n 0, 1) := by decide +kernel
theorem d_m_charAt_1 : decode prog_10_method_38_code 1 = .ok (.iload_n 1, 1) := by decide +kernel
theorem d_m_charAt_2 : decode prog_10_method_38_code 2 = .ok (.i2l, 1) := by decide +kernel
theorem d_m_charAt_3 : decode prog_10_method_38_code 3 = .ok (.lconst 0, 1) := by decide +kernel
theorem d_m_charAt_4 : decode prog_10_method_38_code 4 = .ok (.aload_n 0, 1) := by decide +kernel
theorem d_m_charAt_5 : decode prog_10_method_38_code 5 = .ok (.getfield 204, 3) := by decide +kernel
theorem d_m_charAt_8 : decode prog_10_method_38_code 8 = .ok (.i2l, 1) := by decide +kernel
theorem d_m_charAt_9 : decode prog_10_method_38_code 9 = .ok (.lconst 1, 1) := by decide +kernel
theorem d_m_charAt_10 : decode prog_10_method_38_code 10 = .ok (.lsub, 1) := by decide +kernel
theorem d_m_charAt_11 : decode prog_10_method_38_code 11 = .ok (.invokestatic 62, 3) := by decide +kernel
theorem d_m_charAt_14 : decode prog_10_method_38_code 14 = .ok (.ifCond .eq 7, 3) := by decide +kernel
theorem d_m_charAt_17 : decode prog_10_method_38_code 17 = .ok (.iconst 0, 1) := by decide +kernel
theorem d_m_charAt_18 : decode prog_10_method_38_code 18 = .ok (.goto 4, 3) := by decide +kernel
theorem d_m_charAt_21 : decode prog_10_method_38_code 21 = .ok (.iconst 1, 1) := by decide +kernel
theorem d_m_charAt_22 : decode prog_10_method_38_code 22 = .ok (.putfield 50, 3) := by decide +kernel
theorem d_m_charAt_25 : decode prog_10_method_38_code 25 = .ok (.aload_n 0, 1) := by decide +kernel
theorem d_m_charAt_26 : decode prog_10_method_38_code 26 = .ok (.getfield 50, 3) := by decide +kernel
theorem d_m_charAt_29 : decode prog_10_method_38_code 29 = .ok (.ifCond .le 7, 3) := by decide +kernel
theorem d_m_charAt_32 : decode prog_10_method_38_code 32 = .ok (.iconst 0, 1) := by decide +kernel
theorem d_m_charAt_33 : decode prog_10_method_38_code 33 = .ok (.goto 9, 3) := by decide +kernel
theorem d_m_charAt_36 : decode prog_10_method_38_code 36 = .ok (.aload_n 0, 1) := by decide +kernel
theorem d_m_charAt_37 : decode prog_10_method_38_code 37 = .ok (.getfield 32, 3) := by decide +kernel
theorem d_m_charAt_40 : decode prog_10_method_38_code 40 = .ok (.iload_n 1, 1) := by decide +kernel
theorem d_m_charAt_41 : decode prog_10_method_38_code 41 = .ok (.iaload, 1) := by decide +kernel
theorem d_m_charAt_42 : decode prog_10_method_38_code 42 = .ok (.ireturn, 1) := by decide +kernel
theorem d_m_edge_0 : decode prog_10_method_39_code 0 = .ok (.aload_n 0, 1) := by decide +kernel
theorem d_m_edge_1 : decode prog_10_method_39_code 1 = .ok (.getfield 35, 3) := by decide +kernel
theorem d_m_edge_4 : decode prog_10_method_39_code 4 = .ok (.aload_n 0, 1) := by decide +kernel
theorem d_m_edge_5 : decode prog_10_method_39_code 5 = .ok (.getfield 229, 3) := by decide +kernel
theorem d_m_edge_8 : decode prog_10_method_39_code 8 = .ok (.lload_n 1, 1) := by decide +kernel
theorem d_m_edge_9 : decode prog_10_method_39_code 9 = .ok (.l2i, 1) := by decide +kernel
theorem d_m_edge_10 : decode prog_10_method_39_code 10 = .ok (.iastore, 1) := by decide +kernel
theorem d_m_edge_11 : decode prog_10_method_39_code 11 = .ok (.aload_n 0, 1) := by decide +kernel
theorem d_m_edge_12 : decode prog_10_method_39_code 12 = .ok (.getfield 38, 3) := by decide +kernel
theorem d_m_edge_15 : decode prog_10_method_39_code 15 = .ok (.aload_n 0, 1) := by decide +kernel
theorem d_m_edge_16 : decode prog_10_method_39_code 16 = .ok (.getfield 229, 3) := by decide +kernel
theorem d_m_edge_19 : decode prog_10_method_39_code 19 = .ok (.lload_n 3, 1) := by decide +kernel
theorem d_m_edge_20 : decode prog_10_method_39_code 20 = .ok (.l2i, 1) := by decide +kernel
theorem d_m_edge_21 : decode prog_10_method_39_code 21 = .ok (.iastore, 1) := by decide +kernel
theorem d_m_edge_22 : decode prog_10_method_39_code 22 = .ok (.aload_n 0, 1) := by decide +kernel
theorem d_m_edge_23 : decode prog_10_method_39_code 23 = .ok (.getfield 41, 3) := by decide +kernel
theorem d_m_edge_26 : decode prog_10_method_39_code 26 = .ok (.aload_n 0, 1) := by decide +kernel
theorem d_m_edge_27 : decode prog_10_method_39_code 27 = .ok (.getfield 229, 3) := by decide +kernel
theorem d_m_edge_30 : decode prog_10_method_39_code 30 = .ok (.lload 5, 2) := by decide +kernel
theorem d_m_edge_32 : decode prog_10_method_39_code 32 = .ok (.l2i, 1) := by decide +kernel
theorem d_m_edge_33 : decode prog_10_method_39_code 33 = .ok (.iastore, 1) := by decide +kernel
theorem d_m_edge_34 : decode prog_10_method_39_code 34 = .ok (.aload_n 0, 1) := by decide +kernel
theorem d_m_edge_35 : decode prog_10_method_39_code 35 = .ok (.getfield 44, 3) := by decide +kernel
theorem d_m_edge_38 : decode prog_10_method_39_code 38 = .ok (.aload_n 0, 1) := by decide +kernel
theorem d_m_edge_39 : decode prog_10_method_39_code 39 = .ok (.getfield 229, 3) := by decide +kernel
theorem d_m_edge_42 : decode prog_10_method_39_code 42 = .ok (.lload 7, 2) := by decide +kernel
theorem d_m_edge_44 : decode prog_10_method_39_code 44 = .ok (.l2i, 1) := by decide +kernel
theorem d_m_edge_45 : decode prog_10_method_39_code 45 = .ok (.iastore, 1) := by decide +kernel
theorem d_m_edge_46 : decode prog_10_method_39_code 46 = .ok (.aload_n 0, 1) := by decide +kernel
theorem d_m_edge_47 : decode prog_10_method_39_code 47 = .ok (.dup, 1) := by decide +kernel
theorem d_m_edge_48 : decode prog_10_method_39_code 48 = .ok (.getfield 229, 3) := by decide +kernel
theorem d_m_edge_51 : decode prog_10_method_39_code 51 = .ok (.iconst 1, 1) := by decide +kernel
theorem d_m_edge_52 : decode prog_10_method_39_code 52 = .ok (.iadd, 1) := by decide +kernel
theorem d_m_edge_53 : decode prog_10_method_39_code 53 = .ok (.putfield 229, 3) := by decide +kernel
theorem d_m_edge_56 : decode prog_10_method_39_code 56 = .ok (.return_, 1) := by decide +kernel
theorem d_m_between_0 : decode prog_10_method_40_code 0 = .ok (.ldc2_w 232, 3) := by decide +kernel
theorem d_m_between_3 : decode prog_10_method_40_code 3 = .ok (.iload 8, 2) := by decide +kernel
theorem d_m_between_5 : decode prog_10_method_40_code 5 = .ok (.i2l, 1) := by decide +kernel
theorem d_m_between_6 : decode prog_10_method_40_code 6 = .ok (.lsub, 1) := by decide +kernel
theorem d_m_between_7 : decode prog_10_method_40_code 7 = .ok (.lstore 9, 2) := by decide +kernel
theorem d_m_between_9 : decode prog_10_method_40_code 9 = .ok (.lload_n 0, 1) := by decide +kernel
theorem d_m_between_10 : decode prog_10_method_40_code 10 = .ok (.lload 9, 2) := by decide +kernel
theorem d_m_between_12 : decode prog_10_method_40_code 12 = .ok (.lmul, 1) := by decide +kernel
theorem d_m_between_13 : decode prog_10_method_40_code 13 = .ok (.lload 9, 2) := by decide +kernel
theorem d_m_between_15 : decode prog_10_method_40_code 15 = .ok (.lmul, 1) := by decide +kernel
theorem d_m_between_16 : decode prog_10_method_40_code 16 = .ok (.lload 9, 2) := by decide +kernel
theorem d_m_between_18 : decode prog_10_method_40_code 18 = .ok (.lmul, 1) := by decide +kernel
theorem d_m_between_19 : decode prog_10_method_40_code 19 = .ok (.ldc2_w 171, 3) := by decide +kernel
theorem d_m_between_22 : decode prog_10_method_40_code 22 = .ok (.lload_n 2, 1) := by decide +kernel
theorem d_m_between_23 : decode prog_10_method_40_code 23 = .ok (.lmul, 1) := by decide +kernel
theorem d_m_between_24 : decode prog_10_method_40_code 24 = .ok (.lload 9, 2) := by decide +kernel
theorem d_m_between_26 : decode prog_10_method_40_code 26 = .ok (.lmul, 1) := by decide +kernel
theorem d_m_between_27 : decode prog_10_method_40_code 27 = .ok (.lload 9, 2) := by decide +kernel
theorem d_m_between_29 : decode prog_10_method_40_code 29 = .ok (.lmul, 1) := by decide +kernel
theorem d_m_between_30 : decode prog_10_method_40_code 30 = .ok (.iload 8, 2) := by decide +kernel
theorem d_m_between_32 : decode prog_10_method_40_code 32 = .ok (.i2l, 1) := by decide +kernel
theorem d_m_between_33 : decode prog_10_method_40_code 33 = .ok (.lmul, 1) := by decide +kernel
theorem d_m_between_34 : decode prog_10_method_40_code 34 = .ok (.ladd, 1) := by decide +kernel
theorem d_m_between_35 : decode prog_10_method_40_code 35 = .ok (.ldc2_w 171, 3) := by decide +kernel
theorem d_m_between_38 : decode prog_10_method_40_code 38 = .ok (.lload 4, 2) := by decide +kernel
theorem d_m_between_40 : decode prog_10_method_40_code 40 = .ok (.lmul, 1) := by decide +kernel
theorem d_m_between_41 : decode prog_10_method_40_code 41 = .ok (.lload 9, 2) := by decide +kernel
theorem d_m_between_43 : decode prog_10_method_40_code 43 = .ok (.lmul, 1) := by decide +kernel
theorem d_m_between_44 : decode prog_10_method_40_code 44 = .ok (.iload 8, 2) := by decide +kernel
theorem d_m_between_46 : decode prog_10_method_40_code 46 = .ok (.i2l, 1) := by decide +kernel
theorem d_m_between_47 : decode prog_10_method_40_code 47 = .ok (.lmul, 1) := by decide +kernel
theorem d_m_between_48 : decode prog_10_method_40_code 48 = .ok (.iload 8, 2) := by decide +kernel
theorem d_m_between_50 : decode prog_10_method_40_code 50 = .ok (.i2l, 1) := by decide +kernel
theorem d_m_between_51 : decode prog_10_method_40_code 51 = .ok (.lmul, 1) := by decide +kernel
theorem d_m_between_52 : decode prog_10_method_40_code 52 = .ok (.ladd, 1) := by decide +kernel
theorem d_m_between_53 : decode prog_10_method_40_code 53 = .ok (.lload 6, 2) := by decide +kernel
theorem d_m_between_55 : decode prog_10_method_40_code 55 = .ok (.iload 8, 2) := by decide +kernel
theorem d_m_between_57 : decode prog_10_method_40_code 57 = .ok (.i2l, 1) := by decide +kernel
theorem d_m_between_58 : decode prog_10_method_40_code 58 = .ok (.lmul, 1) := by decide +kernel
theorem d_m_between_59 : decode prog_10_method_40_code 59 = .ok (.iload 8, 2) := by decide +kernel
theorem d_m_between_61 : decode prog_10_method_40_code 61 = .ok (.i2l, 1) := by decide +kernel
theorem d_m_between_62 : decode prog_10_method_40_code 62 = .ok (.lmul, 1) := by decide +kernel
theorem d_m_between_63 : decode prog_10_method_40_code 63 = .ok (.iload 8, 2) := by decide +kernel
theorem d_m_between_65 : decode prog_10_method_40_code 65 = .ok (.i2l, 1) := by decide +kernel
theorem d_m_between_66 : decode prog_10_method_40_code 66 = .ok (.lmul, 1) := by decide +kernel
theorem d_m_between_67 : decode prog_10_method_40_code 67 = .ok (.ladd, 1) := by decide +kernel
theorem d_m_between_68 : decode prog_10_method_40_code 68 = .ok (.ldc2_w 234, 3) := by decide +kernel
theorem d_m_between_71 : decode prog_10_method_40_code 71 = .ok (.invokestatic 110, 3) := by decide +kernel
theorem d_m_between_74 : decode prog_10_method_40_code 74 = .ok (.lreturn, 1) := by decide +kernel
theorem d_m_makeEdges_0 : decode prog_10_method_41_code 0 = .ok (.aload_n 0, 1) := by decide +kernel
theorem d_m_makeEdges_1 : decode prog_10_method_41_code 1 = .ok (.iconst 0, 1) := by decide +kernel
theorem d_m_makeEdges_2 : decode prog_10_method_41_code 2 = .ok (.putfield 229, 3) := by decide +kernel
theorem d_m_makeEdges_5 : decode prog_10_method_41_code 5 = .ok (.lconst 0, 1) := by decide +kernel
theorem d_m_makeEdges_6 : decode prog_10_method_41_code 6 = .ok (.lstore_n 1, 1) := by decide +kernel
theorem d_m_makeEdges_7 : decode prog_10_method_41_code 7 = .ok (.lconst 0, 1) := by decide +kernel
theorem d_m_makeEdges_8 : decode prog_10_method_41_code 8 = .ok (.lstore_n 3, 1) := by decide +kernel
theorem d_m_makeEdges_9 : decode prog_10_method_41_code 9 = .ok (.lconst 0, 1) := by decide +kernel
theorem d_m_makeEdges_10 : decode prog_10_method_41_code 10 = .ok (.lstore 5, 2) := by decide +kernel
theorem d_m_makeEdges_12 : decode prog_10_method_41_code 12 = .ok (.lconst 0, 1) := by decide +kernel
theorem d_m_makeEdges_13 : decode prog_10_method_41_code 13 = .ok (.lstore 7, 2) := by decide +kernel
theorem d_m_makeEdges_15 : decode prog_10_method_41_code 15 = .ok (.iconst 0, 1) := by decide +kernel
theorem d_m_makeEdges_16 : decode prog_10_method_41_code 16 = .ok (.istore 9, 2) := by decide +kernel
theorem d_m_makeEdges_18 : decode prog_10_method_41_code 18 = .ok (.iconst 0, 1) := by decide +kernel
theorem d_m_makeEdges_19 : decode prog_10_method_41_code 19 = .ok (.istore 10, 2) := by decide +kernel
theorem d_m_makeEdges_21 : decode prog_10_method_41_code 21 = .ok (.iload 10, 2) := by decide +kernel
theorem d_m_makeEdges_23 : decode prog_10_method_41_code 23 = .ok (.aload_n 0, 1) := by decide +kernel
theorem d_m_makeEdges_24 : decode prog_10_method_41_code 24 = .ok (.getfield 186, 3) := by decide +kernel
theorem d_m_makeEdges_27 : decode prog_10_method_41_code 27 = .ok (.if_icmp .ge 294, 3) := by decide +kernel
theorem d_m_makeEdges_30 : decode prog_10_method_41_code 30 = .ok (.bipush 6, 2) := by decide +kernel
theorem d_m_makeEdges_32 : decode prog_10_method_41_code 32 = .ok (.iload 10, 2) := by decide +kernel
theorem d_m_makeEdges_34 : decode prog_10_method_41_code 34 = .ok (.imul, 1) := by decide +kernel
theorem d_m_makeEdges_35 : decode prog_10_method_41_code 35 = .ok (.istore 11, 2) := by decide +kernel
theorem d_m_makeEdges_37 : decode prog_10_method_41_code 37 = .ok (.iload 9, 2) := by decide +kernel
theorem d_m_makeEdges_39 : decode prog_10_method_41_code 39 = .ok (.ifCond .eq 37, 3) := by decide +kernel
theorem d_m_makeEdges_42 : decode prog_10_method_41_code 42 = .ok (.aload_n 0, 1) := by decide +kernel
theorem d_m_makeEdges_43 : decode prog_10_method_41_code 43 = .ok (.getfield 13, 3) := by decide +kernel
theorem d_m_makeEdges_46 : decode prog_10_method_41_code 46 = .ok (.iload 10, 2) := by decide +kernel
theorem d_m_makeEdges_48 : decode prog_10_method_41_code 48 = .ok (.iaload, 1) := by decide +kernel
theorem d_m_makeEdges_49 : decode prog_10_method_41_code 49 = .ok (.ifCond .eq 14, 3) := by decide +kernel
theorem d_m_makeEdges_52 : decode prog_10_method_41_code 52 = .ok (.aload_n 0, 1) := by decide +kernel
theorem d_m_makeEdges_53 : decode prog_10_method_41_code 53 = .ok (.getfield 13, 3) := by decide +kernel
theorem d_m_makeEdges_56 : decode prog_10_method_41_code 56 = .ok (.iload 10, 2) := by decide +kernel
theorem d_m_makeEdges_58 : decode prog_10_method_41_code 58 = .ok (.iaload, 1) := by decide +kernel
theorem d_m_makeEdges_59 : decode prog_10_method_41_code 59 = .ok (.iconst 3, 1) := by decide +kernel
theorem d_m_makeEdges_60 : decode prog_10_method_41_code 60 = .ok (.if_icmp .ne 16, 3) := by decide +kernel
theorem d_m_makeEdges_63 : decode prog_10_method_41_code 63 = .ok (.aload_n 0, 1) := by decide +kernel
theorem d_m_makeEdges_64 : decode prog_10_method_41_code 64 = .ok (.lload_n 1, 1) := by decide +kernel
theorem d_m_makeEdges_65 : decode prog_10_method_41_code 65 = .ok (.lload_n 3, 1) := by decide +kernel
theorem d_m_makeEdges_66 : decode prog_10_method_41_code 66 = .ok (.lload 5, 2) := by decide +kernel
theorem d_m_makeEdges_68 : decode prog_10_method_41_code 68 = .ok (.lload 7, 2) := by decide +kernel
theorem d_m_makeEdges_70 : decode prog_10_method_41_code 70 = .ok (.invokevirtual 236, 3) := by decide +kernel
theorem d_m_makeEdges_73 : decode prog_10_method_41_code 73 = .ok (.iconst 0, 1) := by decide +kernel
theorem d_m_makeEdges_74 : decode prog_10_method_41_code 74 = .ok (.istore 9, 2) := by decide +kernel
theorem d_m_makeEdges_76 : decode prog_10_method_41_code 76 = .ok (.aload_n 0, 1) := by decide +kernel
theorem d_m_makeEdges_77 : decode prog_10_method_41_code 77 = .ok (.getfield 13, 3) := by decide +kernel
theorem d_m_makeEdges_80 : decode prog_10_method_41_code 80 = .ok (.iload 10, 2) := by decide +kernel
theorem d_m_makeEdges_82 : decode prog_10_method_41_code 82 = .ok (.iaload, 1) := by decide +kernel
theorem d_m_makeEdges_83 : decode prog_10_method_41_code 83 = .ok (.ifCond .ne 34, 3) := by decide +kernel
theorem d_m_makeEdges_86 : decode prog_10_method_41_code 86 = .ok (.aload_n 0, 1) := by decide +kernel
theorem d_m_makeEdges_87 : decode prog_10_method_41_code 87 = .ok (.getfield 16, 3) := by decide +kernel
theorem d_m_makeEdges_90 : decode prog_10_method_41_code 90 = .ok (.iload 11, 2) := by decide +kernel
theorem d_m_makeEdges_92 : decode prog_10_method_41_code 92 = .ok (.iaload, 1) := by decide +kernel
theorem d_m_makeEdges_93 : decode prog_10_method_41_code 93 = .ok (.i2l, 1) := by decide +kernel
theorem d_m_makeEdges_94 : decode prog_10_method_41_code 94 = .ok (.lstore 5, 2) := by decide +kernel
theorem d_m_makeEdges_96 : decode prog_10_method_41_code 96 = .ok (.aload_n 0, 1) := by decide +kernel
theorem d_m_makeEdges_97 : decode prog_10_method_41_code 97 = .ok (.getfield 16, 3) := by decide +kernel
theorem d_m_makeEdges_100 : decode prog_10_method_41_code 100 = .ok (.iload 11, 2) := by decide +kernel
theorem d_m_makeEdges_102 : decode prog_10_method_41_code 102 = .ok (.iconst 1, 1) := by decide +kernel
theorem d_m_makeEdges_103 : decode prog_10_method_41_code 103 = .ok (.iadd, 1) := by decide +kernel
theorem d_m_makeEdges_104 : decode prog_10_method_41_code 104 = .ok (.iaload, 1) := by decide +kernel
theorem d_m_makeEdges_105 : decode prog_10_method_41_code 105 = .ok (.i2l, 1) := by decide +kernel
theorem d_m_makeEdges_106 : decode prog_10_method_41_code 106 = .ok (.lstore 7, 2) := by decide +kernel
theorem d_m_makeEdges_108 : decode prog_10_method_41_code 108 = .ok (.lload 5, 2) := by decide +kernel
theorem d_m_makeEdges_110 : decode prog_10_method_41_code 110 = .ok (.lstore_n 1, 1) := by decide +kernel
theorem d_m_makeEdges_111 : decode prog_10_method_41_code 111 = .ok (.lload 7, 2) := by decide +kernel
theorem d_m_makeEdges_113 : decode prog_10_method_41_code 113 = .ok (.lstore_n 3, 1) := by decide +kernel
theorem d_m_makeEdges_114 : decode prog_10_method_41_code 114 = .ok (.goto 201, 3) := by decide +kernel
theorem d_m_makeEdges_117 : decode prog_10_method_41_code 117 = .ok (.aload_n 0, 1) := by decide +kernel
theorem d_m_makeEdges_118 : decode prog_10_method_41_code 118 = .ok (.getfield 13, 3) := by decide +kernel
theorem d_m_makeEdges_121 : decode prog_10_method_41_code 121 = .ok (.iload 10, 2) := by decide +kernel
theorem d_m_makeEdges_123 : decode prog_10_method_41_code 123 = .ok (.iaload, 1) := by decide +kernel
theorem d_m_makeEdges_124 : decode prog_10_method_41_code 124 = .ok (.iconst 3, 1) := by decide +kernel
theorem d_m_makeEdges_125 : decode prog_10_method_41_code 125 = .ok (.if_icmp .ne 12, 3) := by decide +kernel
theorem d_m_makeEdges_128 : decode prog_10_method_41_code 128 = .ok (.lload 5, 2) := by decide +kernel
theorem d_m_makeEdges_130 : decode prog_10_method_41_code 130 = .ok (.lstore_n 1, 1) := by decide +kernel
theorem d_m_makeEdges_131 : decode prog_10_method_41_code 131 = .ok (.lload 7, 2) := by decide +kernel
theorem d_m_makeEdges_133 : decode prog_10_method_41_code 133 = .ok (.lstore_n 3, 1) := by decide +kernel
theorem d_m_makeEdges_134 : decode prog_10_method_41_code 134 = .ok (.goto 181, 3) := by decide +kernel
theorem d_m_makeEdges_137 : decode prog_10_method_41_code 137 = .ok (.aload_n 0, 1) := by decide +kernel
theorem d_m_makeEdges_138 : decode prog_10_method_41_code 138 = .ok (.getfield 13, 3) := by decide +kernel
theorem d_m_makeEdges_141 : decode prog_10_method_41_code 141 = .ok (.iload 10, 2) := by decide +kernel
theorem d_m_makeEdges_143 : decode prog_10_method_41_code 143 = .ok (.iaload, 1) := by decide +kernel
theorem d_m_makeEdges_144 : decode prog_10_method_41_code 144 = .ok (.iconst 1, 1) := by decide +kernel
theorem d_m_makeEdges_145 : decode prog_10_method_41_code 145 = .ok (.if_icmp .ne 53, 3) := by decide +kernel
theorem d_m_makeEdges_148 : decode prog_10_method_41_code 148 = .ok (.aload_n 0, 1) := by decide +kernel
theorem d_m_makeEdges_149 : decode prog_10_method_41_code 149 = .ok (.lload_n 1, 1) := by decide +kernel
theorem d_m_makeEdges_150 : decode prog_10_method_41_code 150 = .ok (.lload_n 3, 1) := by decide +kernel
theorem d_m_makeEdges_151 : decode prog_10_method_41_code 151 = .ok (.aload_n 0, 1) := by decide +kernel
theorem d_m_makeEdges_152 : decode prog_10_method_41_code 152 = .ok (.getfield 16, 3) := by decide +kernel
theorem d_m_makeEdges_155 : decode prog_10_method_41_code 155 = .ok (.iload 11, 2) := by decide +kernel
theorem d_m_makeEdges_157 : decode prog_10_method_41_code 157 = .ok (.iaload, 1) := by decide +kernel
theorem d_m_makeEdges_158 : decode prog_10_method_41_code 158 = .ok (.i2l, 1) := by decide +kernel
theorem d_m_makeEdges_159 : decode prog_10_method_41_code 159 = .ok (.aload_n 0, 1) := by decide +kernel
theorem d_m_makeEdges_160 : decode prog_10_method_41_code 160 = .ok (.getfield 16, 3) := by decide +kernel
theorem d_m_makeEdges_163 : decode prog_10_method_41_code 163 = .ok (.iload 11, 2) := by decide +kernel
theorem d_m_makeEdges_165 : decode prog_10_method_41_code 165 = .ok (.iconst 1, 1) := by decide +kernel
theorem d_m_makeEdges_166 : decode prog_10_method_41_code 166 = .ok (.iadd, 1) := by decide +kernel
theorem d_m_makeEdges_167 : decode prog_10_method_41_code 167 = .ok (.iaload, 1) := by decide +kernel
theorem d_m_makeEdges_168 : decode prog_10_method_41_code 168 = .ok (.i2l, 1) := by decide +kernel
theorem d_m_makeEdges_169 : decode prog_10_method_41_code 169 = .ok (.invokevirtual 236, 3) := by decide +kernel
theorem d_m_makeEdges_172 : decode prog_10_method_41_code 172 = .ok (.aload_n 0, 1) := by decide +kernel
theorem d_m_makeEdges_173 : decode prog_10_method_41_code 173 = .ok (.getfield 16, 3) := by decide +kernel
theorem d_m_makeEdges_176 : decode prog_10_method_41_code 176 = .ok (.iload 11, 2) := by decide +kernel
theorem d_m_makeEdges_178 : decode prog_10_method_41_code 178 = .ok (.iaload, 1) := by decide +kernel
theorem d_m_makeEdges_179 : decode prog_10_method_41_code 179 = .ok (.i2l, 1) := by decide +kernel
theorem d_m_makeEdges_180 : decode prog_10_method_41_code 180 = .ok (.lstore_n 1, 1) := by decide +kernel
theorem d_m_makeEdges_181 : decode prog_10_method_41_code 181 = .ok (.aload_n 0, 1) := by decide +kernel
theorem d_m_makeEdges_182 : decode prog_10_method_41_code 182 = .ok (.getfield 16, 3) := by decide +kernel
theorem d_m_makeEdges_185 : decode prog_10_method_41_code 185 = .ok (.iload 11, 2) := by decide +kernel
theorem d_m_makeEdges_187 : decode prog_10_method_41_code 187 = .ok (.iconst 1, 1) := by decide +kernel
theorem d_m_makeEdges_188 : decode prog_10_method_41_code 188 = .ok (.iadd, 1) := by decide +kernel
theorem d_m_makeEdges_189 : decode prog_10_method_41_code 189 = .ok (.iaload, 1) := by decide +kernel
theorem d_m_makeEdges_190 : decode prog_10_method_41_code 190 = .ok (.i2l, 1) := by decide +kernel
theorem d_m_makeEdges_191 : decode prog_10_method_41_code 191 = .ok (.lstore_n 3, 1) := by decide +kernel
theorem d_m_makeEdges_192 : decode prog_10_method_41_code 192 = .ok (.iconst 1, 1) := by decide +kernel
theorem d_m_makeEdges_193 : decode prog_10_method_41_code 193 = .ok (.istore 9, 2) := by decide +kernel
theorem d_m_makeEdges_195 : decode prog_10_method_41_code 195 = .ok (.goto 120, 3) := by decide +kernel
theorem d_m_makeEdges_198 : decode prog_10_method_41_code 198 = .ok (.lload_n 1, 1) := by decide +kernel
theorem d_m_makeEdges_199 : decode prog_10_method_41_code 199 = .ok (.lstore 12, 2) := by decide +kernel
theorem d_m_makeEdges_201 : decode prog_10_method_41_code 201 = .ok (.lload_n 3, 1) := by decide +kernel
theorem d_m_makeEdges_202 : decode prog_10_method_41_code 202 = .ok (.lstore 14, 2) := by decide +kernel
theorem d_m_makeEdges_204 : decode prog_10_method_41_code 204 = .ok (.iconst 1, 1) := by decide +kernel
theorem d_m_makeEdges_205 : decode prog_10_method_41_code 205 = .ok (.istore 16, 2) := by decide +kernel
theorem d_m_makeEdges_207 : decode prog_10_method_41_code 207 = .ok (.iload 16, 2) := by decide +kernel
theorem d_m_makeEdges_209 : decode prog_10_method_41_code 209 = .ok (.bipush 16, 2) := by decide +kernel
theorem d_m_makeEdges_211 : decode prog_10_method_41_code 211 = .ok (.if_icmp .gt 101, 3) := by decide +kernel
theorem d_m_makeEdges_214 : decode prog_10_method_41_code 214 = .ok (.lload 12, 2) := by decide +kernel
theorem d_m_makeEdges_216 : decode prog_10_method_41_code 216 = .ok (.aload_n 0, 1) := by decide +kernel
theorem d_m_makeEdges_217 : decode prog_10_method_41_code 217 = .ok (.getfield 16, 3) := by decide +kernel
theorem d_m_makeEdges_220 : decode prog_10_method_41_code 220 = .ok (.iload 11, 2) := by decide +kernel
theorem d_m_makeEdges_222 : decode prog_10_method_41_code 222 = .ok (.iaload, 1) := by decide +kernel
theorem d_m_makeEdges_223 : decode prog_10_method_41_code 223 = .ok (.i2l, 1) := by decide +kernel
theorem d_m_makeEdges_224 : decode prog_10_method_41_code 224 = .ok (.aload_n 0, 1) := by decide +kernel
theorem d_m_makeEdges_225 : decode prog_10_method_41_code 225 = .ok (.getfield 16, 3) := by decide +kernel
theorem d_m_makeEdges_228 : decode prog_10_method_41_code 228 = .ok (.iload 11, 2) := by decide +kernel
theorem d_m_makeEdges_230 : decode prog_10_method_41_code 230 = .ok (.iconst 2, 1) := by decide +kernel
theorem d_m_makeEdges_231 : decode prog_10_method_41_code 231 = .ok (.iadd, 1) := by decide +kernel
theorem d_m_makeEdges_232 : decode prog_10_method_41_code 232 = .ok (.iaload, 1) := by decide +kernel
theorem d_m_makeEdges_233 : decode prog_10_method_41_code 233 = .ok (.i2l, 1) := by decide +kernel
theorem d_m_makeEdges_234 : decode prog_10_method_41_code 234 = .ok (.aload_n 0, 1) := by decide +kernel
theorem d_m_makeEdges_235 : decode prog_10_method_41_code 235 = .ok (.getfield 16, 3) := by decide +kernel
theorem d_m_makeEdges_238 : decode prog_10_method_41_code 238 = .ok (.iload 11, 2) := by decide +kernel
theorem d_m_makeEdges_240 : decode prog_10_method_41_code 240 = .ok (.iconst 4, 1) := by decide +kernel
theorem d_m_makeEdges_241 : decode prog_10_method_41_code 241 = .ok (.iadd, 1) := by decide +kernel
theorem d_m_makeEdges_242 : decode prog_10_method_41_code 242 = .ok (.iaload, 1) := by decide +kernel
theorem d_m_makeEdges_243 : decode prog_10_method_41_code 243 = .ok (.i2l, 1) := by decide +kernel
theorem d_m_makeEdges_244 : decode prog_10_method_41_code 244 = .ok (.iload 16, 2) := by decide +kernel
theorem d_m_makeEdges_246 : decode prog_10_method_41_code 246 = .ok (.invokestatic 240, 3) := by decide +kernel
theorem d_m_makeEdges_249 : decode prog_10_method_41_code 249 = .ok (.lstore 17, 2) := by decide +kernel
theorem d_m_makeEdges_251 : decode prog_10_method_41_code 251 = .ok (.lload 14, 2) := by decide +kernel
theorem d_m_makeEdges_253 : decode prog_10_method_41_code 253 = .ok (.aload_n 0, 1) := by decide +kernel
theorem d_m_makeEdges_254 : decode prog_10_method_41_code 254 = .ok (.getfield 16, 3) := by decide +kernel
theorem d_m_makeEdges_257 : decode prog_10_method_41_code 257 = .ok (.iload 11, 2) := by decide +kernel
theorem d_m_makeEdges_259 : decode prog_10_method_41_code 259 = .ok (.iconst 1, 1) := by decide +kernel
theorem d_m_makeEdges_260 : decode prog_10_method_41_code 260 = .ok (.iadd, 1) := by decide +kernel
theorem d_m_makeEdges_261 : decode prog_10_method_41_code 261 = .ok (.iaload, 1) := by decide +kernel
theorem d_m_makeEdges_262 : decode prog_10_method_41_code 262 = .ok (.i2l, 1) := by decide +kernel
theorem d_m_makeEdges_263 : decode prog_10_method_41_code 263 = .ok (.aload_n 0, 1) := by decide +kernel
theorem d_m_makeEdges_264 : decode prog_10_method_41_code 264 = .ok (.getfield 16, 3) := by decide +kernel
theorem d_m_makeEdges_267 : decode prog_10_method_41_code 267 = .ok (.iload 11, 2) := by decide +kernel
theorem d_m_makeEdges_269 : decode prog_10_method_41_code 269 = .ok (.iconst 3, 1) := by decide +kernel
theorem d_m_makeEdges_270 : decode prog_10_method_41_code 270 = .ok (.iadd, 1) := by decide +kernel
theorem d_m_makeEdges_271 : decode prog_10_method_41_code 271 = .ok (.iaload, 1) := by decide +kernel
theorem d_m_makeEdges_272 : decode prog_10_method_41_code 272 = .ok (.i2l, 1) := by decide +kernel
theorem d_m_makeEdges_273 : decode prog_10_method_41_code 273 = .ok (.aload_n 0, 1) := by decide +kernel
theorem d_m_makeEdges_274 : decode prog_10_method_41_code 274 = .ok (.getfield 16, 3) := by decide +kernel
theorem d_m_makeEdges_277 : decode prog_10_method_41_code 277 = .ok (.iload 11, 2) := by decide +kernel
theorem d_m_makeEdges_279 : decode prog_10_method_41_code 279 = .ok (.iconst 5, 1) := by decide +kernel
theorem d_m_makeEdges_280 : decode prog_10_method_41_code 280 = .ok (.iadd, 1) := by decide +kernel
theorem d_m_makeEdges_281 : decode prog_10_method_41_code 281 = .ok (.iaload, 1) := by decide +kernel
theorem d_m_makeEdges_282 : decode prog_10_method_41_code 282 = .ok (.i2l, 1) := by decide +kernel
theorem d_m_makeEdges_283 : decode prog_10_method_41_code 283 = .ok (.iload 16, 2) := by decide +kernel
theorem d_m_makeEdges_285 : decode prog_10_method_41_code 285 = .ok (.invokestatic 240, 3) := by decide +kernel
theorem d_m_makeEdges_288 : decode prog_10_method_41_code 288 = .ok (.lstore 19, 2) := by decide +kernel
theorem d_m_makeEdges_290 : decode prog_10_method_41_code 290 = .ok (.aload_n 0, 1) := by decide +kernel
theorem d_m_makeEdges_291 : decode prog_10_method_41_code 291 = .ok (.lload_n 1, 1) := by decide +kernel
theorem d_m_makeEdges_292 : decode prog_10_method_41_code 292 = .ok (.lload_n 3, 1) := by decide +kernel
theorem d_m_makeEdges_293 : decode prog_10_method_41_code 293 = .ok (.lload 17, 2) := by decide +kernel
theorem d_m_makeEdges_295 : decode prog_10_method_41_code 295 = .ok (.lload 19, 2) := by decide +kernel
theorem d_m_makeEdges_297 : decode prog_10_method_41_code 297 = .ok (.invokevirtual 236, 3) := by decide +kernel
theorem d_m_makeEdges_300 : decode prog_10_method_41_code 300 = .ok (.lload 17, 2) := by decide +kernel
theorem d_m_makeEdges_302 : decode prog_10_method_41_code 302 = .ok (.lstore_n 1, 1) := by decide +kernel
theorem d_m_makeEdges_303 : decode prog_10_method_41_code 303 = .ok (.lload 19, 2) := by decide +kernel
theorem d_m_makeEdges_305 : decode prog_10_method_41_code 305 = .ok (.lstore_n 3, 1) := by decide +kernel
theorem d_m_makeEdges_306 : decode prog_10_method_41_code 306 = .ok (.iinc 16 1, 3) := by decide +kernel
theorem d_m_makeEdges_309 : decode prog_10_method_41_code 309 = .ok (.goto (-102), 3) := by decide +kernel
theorem d_m_makeEdges_312 : decode prog_10_method_41_code 312 = .ok (.iconst 1, 1) := by decide +kernel
theorem d_m_makeEdges_313 : decode prog_10_method_41_code 313 = .ok (.istore 9, 2) := by decide +kernel
theorem d_m_makeEdges_315 : decode prog_10_method_41_code 315 = .ok (.iinc 10 1, 3) := by decide +kernel
theorem d_m_makeEdges_318 : decode prog_10_method_41_code 318 = .ok (.goto (-297), 3) := by decide +kernel
theorem d_m_makeEdges_321 : decode prog_10_method_41_code 321 = .ok (.iload 9, 2) := by decide +kernel
theorem d_m_makeEdges_323 : decode prog_10_method_41_code 323 = .ok (.ifCond .eq 13, 3) := by decide +kernel
theorem d_m_makeEdges_326 : decode prog_10_method_41_code 326 = .ok (.aload_n 0, 1) := by decide +kernel
theorem d_m_makeEdges_327 : decode prog_10_method_41_code 327 = .ok (.lload_n 1, 1) := by decide +kernel
theorem d_m_makeEdges_328 : decode prog_10_method_41_code 328 = .ok (.lload_n 3, 1) := by decide +kernel
theorem d_m_makeEdges_329 : decode prog_10_method_41_code 329 = .ok (.lload 5, 2) := by decide +kernel
theorem d_m_makeEdges_331 : decode prog_10_method_41_code 331 = .ok (.lload 7, 2) := by decide +kernel
theorem d_m_makeEdges_333 : decode prog_10_method_41_code 333 = .ok (.invokevirtual 236, 3) := by decide +kernel
theorem d_m_makeEdges_336 : decode prog_10_method_41_code 336 = .ok (.return_, 1) := by decide +kernel
theorem d_m_counts_0 : decode prog_10_method_42_code 0 = .ok (.aload_n 0, 1) := by decide +kernel
theorem d_m_counts_1 : decode prog_10_method_42_code 1 = .ok (.getfield 38, 3) := by decide +kernel
theorem d_m_counts_4 : decode prog_10_method_42_code 4 = .ok (.iload_n 1, 1) := by decide +kernel
theorem d_m_counts_5 : decode prog_10_method_42_code 5 = .ok (.iaload, 1) := by decide +kernel
theorem d_m_counts_6 : decode prog_10_method_42_code 6 = .ok (.iload_n 3, 1) := by decide +kernel
theorem d_m_counts_7 : decode prog_10_method_42_code 7 = .ok (.if_icmp .gt 17, 3) := by decide +kernel
theorem d_m_counts_10 : decode prog_10_method_42_code 10 = .ok (.iload_n 3, 1) := by decide +kernel
theorem d_m_counts_11 : decode prog_10_method_42_code 11 = .ok (.aload_n 0, 1) := by decide +kernel
theorem d_m_counts_12 : decode prog_10_method_42_code 12 = .ok (.getfield 44, 3) := by decide +kernel
theorem d_m_counts_15 : decode prog_10_method_42_code 15 = .ok (.iload_n 1, 1) := by decide +kernel
theorem d_m_counts_16 : decode prog_10_method_42_code 16 = .ok (.iaload, 1) := by decide +kernel
theorem d_m_counts_17 : decode prog_10_method_42_code 17 = .ok (.if_icmp .ge 7, 3) := by decide +kernel
theorem d_m_counts_20 : decode prog_10_method_42_code 20 = .ok (.iconst 1, 1) := by decide +kernel
theorem d_m_counts_21 : decode prog_10_method_42_code 21 = .ok (.goto 4, 3) := by decide +kernel
theorem d_m_counts_24 : decode prog_10_method_42_code 24 = .ok (.iconst 0, 1) := by decide +kernel
theorem d_m_counts_25 : decode prog_10_method_42_code 25 = .ok (.istore 4, 2) := by decide +kernel
theorem d_m_counts_27 : decode prog_10_method_42_code 27 = .ok (.aload_n 0, 1) := by decide +kernel
theorem d_m_counts_28 : decode prog_10_method_42_code 28 = .ok (.getfield 44, 3) := by decide +kernel
theorem d_m_counts_31 : decode prog_10_method_42_code 31 = .ok (.iload_n 1, 1) := by decide +kernel
theorem d_m_counts_32 : decode prog_10_method_42_code 32 = .ok (.iaload, 1) := by decide +kernel
theorem d_m_counts_33 : decode prog_10_method_42_code 33 = .ok (.iload_n 3, 1) := by decide +kernel
theorem d_m_counts_34 : decode prog_10_method_42_code 34 = .ok (.if_icmp .gt 17, 3) := by decide +kernel
theorem d_m_counts_37 : decode prog_10_method_42_code 37 = .ok (.iload_n 3, 1) := by decide +kernel
theorem d_m_counts_38 : decode prog_10_method_42_code 38 = .ok (.aload_n 0, 1) := by decide +kernel
theorem d_m_counts_39 : decode prog_10_method_42_code 39 = .ok (.getfield 38, 3) := by decide +kernel
theorem d_m_counts_42 : decode prog_10_method_42_code 42 = .ok (.iload_n 1, 1) := by decide +kernel
theorem d_m_counts_43 : decode prog_10_method_42_code 43 = .ok (.iaload, 1) := by decide +kernel
theorem d_m_counts_44 : decode prog_10_method_42_code 44 = .ok (.if_icmp .ge 7, 3) := by decide +kernel
theorem d_m_counts_47 : decode prog_10_method_42_code 47 = .ok (.iconst 1, 1) := by decide +kernel
theorem d_m_counts_48 : decode prog_10_method_42_code 48 = .ok (.goto 4, 3) := by decide +kernel
theorem d_m_counts_51 : decode prog_10_method_42_code 51 = .ok (.iconst 0, 1) := by decide +kernel
theorem d_m_counts_52 : decode prog_10_method_42_code 52 = .ok (.istore 5, 2) := by decide +kernel
theorem d_m_counts_54 : decode prog_10_method_42_code 54 = .ok (.iload 4, 2) := by decide +kernel
theorem d_m_counts_56 : decode prog_10_method_42_code 56 = .ok (.ifCond .ne 10, 3) := by decide +kernel
theorem d_m_counts_59 : decode prog_10_method_42_code 59 = .ok (.iload 5, 2) := by decide +kernel
theorem d_m_counts_61 : decode prog_10_method_42_code 61 = .ok (.ifCond .ne 5, 3) := by decide +kernel
theorem d_m_counts_64 : decode prog_10_method_42_code 64 = .ok (.iconst 0, 1) := by decide +kernel
theorem d_m_counts_65 : decode prog_10_method_42_code 65 = .ok (.ireturn, 1) := by decide +kernel
theorem d_m_counts_66 : decode prog_10_method_42_code 66 = .ok (.iload_n 3, 1) := by decide +kernel
theorem d_m_counts_67 : decode prog_10_method_42_code 67 = .ok (.aload_n 0, 1) := by decide +kernel
theorem d_m_counts_68 : decode prog_10_method_42_code 68 = .ok (.getfield 38, 3) := by decide +kernel
theorem d_m_counts_71 : decode prog_10_method_42_code 71 = .ok (.iload_n 1, 1) := by decide +kernel
theorem d_m_counts_72 : decode prog_10_method_42_code 72 = .ok (.iaload, 1) := by decide +kernel
theorem d_m_counts_73 : decode prog_10_method_42_code 73 = .ok (.isub, 1) := by decide +kernel
theorem d_m_counts_74 : decode prog_10_method_42_code 74 = .ok (.i2l, 1) := by decide +kernel
theorem d_m_counts_75 : decode prog_10_method_42_code 75 = .ok (.aload_n 0, 1) := by decide +kernel
theorem d_m_counts_76 : decode prog_10_method_42_code 76 = .ok (.getfield 41, 3) := by decide +kernel
theorem d_m_counts_79 : decode prog_10_method_42_code 79 = .ok (.iload_n 1, 1) := by decide +kernel
theorem d_m_counts_80 : decode prog_10_method_42_code 80 = .ok (.iaload, 1) := by decide +kernel
theorem d_m_counts_81 : decode prog_10_method_42_code 81 = .ok (.aload_n 0, 1) := by decide +kernel
theorem d_m_counts_82 : decode prog_10_method_42_code 82 = .ok (.getfield 35, 3) := by decide +kernel
theorem d_m_counts_85 : decode prog_10_method_42_code 85 = .ok (.iload_n 1, 1) := by decide +kernel
theorem d_m_counts_86 : decode prog_10_method_42_code 86 = .ok (.iaload, 1) := by decide +kernel
theorem d_m_counts_87 : decode prog_10_method_42_code 87 = .ok (.isub, 1) := by decide +kernel
theorem d_m_counts_88 : decode prog_10_method_42_code 88 = .ok (.i2l, 1) := by decide +kernel
theorem d_m_counts_89 : decode prog_10_method_42_code 89 = .ok (.lmul, 1) := by decide +kernel
theorem d_m_counts_90 : decode prog_10_method_42_code 90 = .ok (.lstore 6, 2) := by decide +kernel
theorem d_m_counts_92 : decode prog_10_method_42_code 92 = .ok (.iload_n 2, 1) := by decide +kernel
theorem d_m_counts_93 : decode prog_10_method_42_code 93 = .ok (.aload_n 0, 1) := by decide +kernel
theorem d_m_counts_94 : decode prog_10_method_42_code 94 = .ok (.getfield 35, 3) := by decide +kernel
theorem d_m_counts_97 : decode prog_10_method_42_code 97 = .ok (.iload_n 1, 1) := by decide +kernel
theorem d_m_counts_98 : decode prog_10_method_42_code 98 = .ok (.iaload, 1) := by decide +kernel
theorem d_m_counts_99 : decode prog_10_method_42_code 99 = .ok (.isub, 1) := by decide +kernel
theorem d_m_counts_100 : decode prog_10_method_42_code 100 = .ok (.i2l, 1) := by decide +kernel
theorem d_m_counts_101 : decode prog_10_method_42_code 101 = .ok (.aload_n 0, 1) := by decide +kernel
theorem d_m_counts_102 : decode prog_10_method_42_code 102 = .ok (.getfield 44, 3) := by decide +kernel
theorem d_m_counts_105 : decode prog_10_method_42_code 105 = .ok (.iload_n 1, 1) := by decide +kernel
theorem d_m_counts_106 : decode prog_10_method_42_code 106 = .ok (.iaload, 1) := by decide +kernel
theorem d_m_counts_107 : decode prog_10_method_42_code 107 = .ok (.aload_n 0, 1) := by decide +kernel
theorem d_m_counts_108 : decode prog_10_method_42_code 108 = .ok (.getfield 38, 3) := by decide +kernel
theorem d_m_counts_111 : decode prog_10_method_42_code 111 = .ok (.iload_n 1, 1) := by decide +kernel
theorem d_m_counts_112 : decode prog_10_method_42_code 112 = .ok (.iaload, 1) := by decide +kernel
theorem d_m_counts_113 : decode prog_10_method_42_code 113 = .ok (.isub, 1) := by decide +kernel
theorem d_m_counts_114 : decode prog_10_method_42_code 114 = .ok (.i2l, 1) := by decide +kernel
theorem d_m_counts_115 : decode prog_10_method_42_code 115 = .ok (.lmul, 1) := by decide +kernel
theorem d_m_counts_116 : decode prog_10_method_42_code 116 = .ok (.lstore 8, 2) := by decide +kernel
theorem d_m_counts_118 : decode prog_10_method_42_code 118 = .ok (.iload 4, 2) := by decide +kernel
theorem d_m_counts_120 : decode prog_10_method_42_code 120 = .ok (.ifCond .eq 19, 3) := by decide +kernel
theorem d_m_counts_123 : decode prog_10_method_42_code 123 = .ok (.lload 6, 2) := by decide +kernel
theorem d_m_counts_125 : decode prog_10_method_42_code 125 = .ok (.lload 8, 2) := by decide +kernel
theorem d_m_counts_127 : decode prog_10_method_42_code 127 = .ok (.lcmp, 1) := by decide +kernel
theorem d_m_counts_128 : decode prog_10_method_42_code 128 = .ok (.ifCond .gt 7, 3) := by decide +kernel
theorem d_m_counts_131 : decode prog_10_method_42_code 131 = .ok (.iconst 1, 1) := by decide +kernel
theorem d_m_counts_132 : decode prog_10_method_42_code 132 = .ok (.goto 20, 3) := by decide +kernel
theorem d_m_counts_135 : decode prog_10_method_42_code 135 = .ok (.iconst 0, 1) := by decide +kernel
theorem d_m_counts_136 : decode prog_10_method_42_code 136 = .ok (.goto 16, 3) := by decide +kernel
theorem d_m_counts_139 : decode prog_10_method_42_code 139 = .ok (.lload 6, 2) := by decide +kernel
theorem d_m_counts_141 : decode prog_10_method_42_code 141 = .ok (.lload 8, 2) := by decide +kernel
theorem d_m_counts_143 : decode prog_10_method_42_code 143 = .ok (.lcmp, 1) := by decide +kernel
theorem d_m_counts_144 : decode prog_10_method_42_code 144 = .ok (.ifCond .lt 7, 3) := by decide +kernel
theorem d_m_counts_147 : decode prog_10_method_42_code 147 = .ok (.iconst (-1), 1) := by decide +kernel
theorem d_m_counts_148 : decode prog_10_method_42_code 148 = .ok (.goto 4, 3) := by decide +kernel
theorem d_m_counts_151 : decode prog_10_method_42_code 151 = .ok (.iconst 0, 1) := by decide +kernel
theorem d_m_counts_152 : decode prog_10_method_42_code 152 = .ok (.ireturn, 1) := by decide +kernel
theorem d_m_render_0 : decode prog_10_method_43_code 0 = .ok (.aload_n 0, 1) := by decide +kernel
theorem d_m_render_1 : decode prog_10_method_43_code 1 = .ok (.iload_n 1, 1) := by decide +kernel
theorem d_m_render_2 : decode prog_10_method_43_code 2 = .ok (.i2l, 1) := by decide +kernel
theorem d_m_render_3 : decode prog_10_method_43_code 3 = .ok (.lconst 1, 1) := by decide +kernel
theorem d_m_render_4 : decode prog_10_method_43_code 4 = .ok (.ldc2_w 244, 3) := by decide +kernel
theorem d_m_render_7 : decode prog_10_method_43_code 7 = .ok (.invokestatic 62, 3) := by decide +kernel
theorem d_m_render_10 : decode prog_10_method_43_code 10 = .ok (.ifCond .eq 29, 3) := by decide +kernel
theorem d_m_render_13 : decode prog_10_method_43_code 13 = .ok (.iload_n 2, 1) := by decide +kernel
theorem d_m_render_14 : decode prog_10_method_43_code 14 = .ok (.i2l, 1) := by decide +kernel
theorem d_m_render_15 : decode prog_10_method_43_code 15 = .ok (.lconst 1, 1) := by decide +kernel
theorem d_m_render_16 : decode prog_10_method_43_code 16 = .ok (.ldc2_w 244, 3) := by decide +kernel
theorem d_m_render_19 : decode prog_10_method_43_code 19 = .ok (.invokestatic 62, 3) := by decide +kernel
theorem d_m_render_22 : decode prog_10_method_43_code 22 = .ok (.ifCond .eq 17, 3) := by decide +kernel
theorem d_m_render_25 : decode prog_10_method_43_code 25 = .ok (.iload_n 3, 1) := by decide +kernel
theorem d_m_render_26 : decode prog_10_method_43_code 26 = .ok (.i2l, 1) := by decide +kernel
theorem d_m_render_27 : decode prog_10_method_43_code 27 = .ok (.lconst 0, 1) := by decide +kernel
theorem d_m_render_28 : decode prog_10_method_43_code 28 = .ok (.lconst 1, 1) := by decide +kernel
theorem d_m_render_29 : decode prog_10_method_43_code 29 = .ok (.invokestatic 62, 3) := by decide +kernel
theorem d_m_render_32 : decode prog_10_method_43_code 32 = .ok (.ifCond .eq 7, 3) := by decide +kernel
theorem d_m_render_35 : decode prog_10_method_43_code 35 = .ok (.iconst 0, 1) := by decide +kernel
theorem d_m_render_36 : decode prog_10_method_43_code 36 = .ok (.goto 4, 3) := by decide +kernel
theorem d_m_render_39 : decode prog_10_method_43_code 39 = .ok (.iconst 1, 1) := by decide +kernel
theorem d_m_render_40 : decode prog_10_method_43_code 40 = .ok (.putfield 50, 3) := by decide +kernel
theorem d_m_render_43 : decode prog_10_method_43_code 43 = .ok (.aload_n 0, 1) := by decide +kernel
theorem d_m_render_44 : decode prog_10_method_43_code 44 = .ok (.getfield 50, 3) := by decide +kernel
theorem d_m_render_47 : decode prog_10_method_43_code 47 = .ok (.ifCond .le 5, 3) := by decide +kernel
theorem d_m_render_50 : decode prog_10_method_43_code 50 = .ok (.iconst 0, 1) := by decide +kernel
theorem d_m_render_51 : decode prog_10_method_43_code 51 = .ok (.ireturn, 1) := by decide +kernel
theorem d_m_render_52 : decode prog_10_method_43_code 52 = .ok (.aload_n 0, 1) := by decide +kernel
theorem d_m_render_53 : decode prog_10_method_43_code 53 = .ok (.invokevirtual 246, 3) := by decide +kernel
theorem d_m_render_56 : decode prog_10_method_43_code 56 = .ok (.aload_n 0, 1) := by decide +kernel
theorem d_m_render_57 : decode prog_10_method_43_code 57 = .ok (.iload_n 1, 1) := by decide +kernel
theorem d_m_render_58 : decode prog_10_method_43_code 58 = .ok (.putfield 249, 3) := by decide +kernel
theorem d_m_render_61 : decode prog_10_method_43_code 61 = .ok (.aload_n 0, 1) := by decide +kernel
theorem d_m_render_62 : decode prog_10_method_43_code 62 = .ok (.iload_n 2, 1) := by decide +kernel
theorem d_m_render_63 : decode prog_10_method_43_code 63 = .ok (.putfield 252, 3) := by decide +kernel
theorem d_m_render_66 : decode prog_10_method_43_code 66 = .ok (.iconst 0, 1) := by decide +kernel
theorem d_m_render_67 : decode prog_10_method_43_code 67 = .ok (.istore 4, 2) := by decide +kernel
theorem d_m_render_69 : decode prog_10_method_43_code 69 = .ok (.iload 4, 2) := by decide +kernel
theorem d_m_render_71 : decode prog_10_method_43_code 71 = .ok (.bipush 64, 2) := by decide +kernel
theorem d_m_render_73 : decode prog_10_method_43_code 73 = .ok (.if_icmp .ge 17, 3) := by decide +kernel
theorem d_m_render_76 : decode prog_10_method_43_code 76 = .ok (.aload_n 0, 1) := by decide +kernel
theorem d_m_render_77 : decode prog_10_method_43_code 77 = .ok (.getfield 47, 3) := by decide +kernel
theorem d_m_render_80 : decode prog_10_method_43_code 80 = .ok (.iload 4, 2) := by decide +kernel
theorem d_m_render_82 : decode prog_10_method_43_code 82 = .ok (.iconst 0, 1) := by decide +kernel
theorem d_m_render_83 : decode prog_10_method_43_code 83 = .ok (.iastore, 1) := by decide +kernel
theorem d_m_render_84 : decode prog_10_method_43_code 84 = .ok (.iinc 4 1, 3) := by decide +kernel
theorem d_m_render_87 : decode prog_10_method_43_code 87 = .ok (.goto (-18), 3) := by decide +kernel
theorem d_m_render_90 : decode prog_10_method_43_code 90 = .ok (.iconst 0, 1) := by decide +kernel
theorem d_m_render_91 : decode prog_10_method_43_code 91 = .ok (.istore 4, 2) := by decide +kernel
theorem d_m_render_93 : decode prog_10_method_43_code 93 = .ok (.iconst 0, 1) := by decide +kernel
theorem d_m_render_94 : decode prog_10_method_43_code 94 = .ok (.istore 5, 2) := by decide +kernel
theorem d_m_render_96 : decode prog_10_method_43_code 96 = .ok (.iload 5, 2) := by decide +kernel
theorem d_m_render_98 : decode prog_10_method_43_code 98 = .ok (.bipush 16, 2) := by decide +kernel
theorem d_m_render_100 : decode prog_10_method_43_code 100 = .ok (.iload_n 2, 1) := by decide +kernel
theorem d_m_render_101 : decode prog_10_method_43_code 101 = .ok (.imul, 1) := by decide +kernel
theorem d_m_render_102 : decode prog_10_method_43_code 102 = .ok (.if_icmp .ge 121, 3) := by decide +kernel
theorem d_m_render_105 : decode prog_10_method_43_code 105 = .ok (.iconst 0, 1) := by decide +kernel
theorem d_m_render_106 : decode prog_10_method_43_code 106 = .ok (.istore 6, 2) := by decide +kernel
theorem d_m_render_108 : decode prog_10_method_43_code 108 = .ok (.iload 6, 2) := by decide +kernel
theorem d_m_render_110 : decode prog_10_method_43_code 110 = .ok (.bipush 16, 2) := by decide +kernel
theorem d_m_render_112 : decode prog_10_method_43_code 112 = .ok (.iload_n 1, 1) := by decide +kernel
theorem d_m_render_113 : decode prog_10_method_43_code 113 = .ok (.imul, 1) := by decide +kernel
theorem d_m_render_114 : decode prog_10_method_43_code 114 = .ok (.if_icmp .ge 103, 3) := by decide +kernel
theorem d_m_render_117 : decode prog_10_method_43_code 117 = .ok (.iconst 0, 1) := by decide +kernel
theorem d_m_render_118 : decode prog_10_method_43_code 118 = .ok (.istore 7, 2) := by decide +kernel
theorem d_m_render_120 : decode prog_10_method_43_code 120 = .ok (.iconst 0, 1) := by decide +kernel
theorem d_m_render_121 : decode prog_10_method_43_code 121 = .ok (.istore 8, 2) := by decide +kernel
theorem d_m_render_123 : decode prog_10_method_43_code 123 = .ok (.iload 8, 2) := by decide +kernel
theorem d_m_render_125 : decode prog_10_method_43_code 125 = .ok (.aload_n 0, 1) := by decide +kernel
theorem d_m_render_126 : decode prog_10_method_43_code 126 = .ok (.getfield 229, 3) := by decide +kernel
theorem d_m_render_129 : decode prog_10_method_43_code 129 = .ok (.if_icmp .ge 36, 3) := by decide +kernel
theorem d_m_render_132 : decode prog_10_method_43_code 132 = .ok (.iload 7, 2) := by decide +kernel
theorem d_m_render_134 : decode prog_10_method_43_code 134 = .ok (.aload_n 0, 1) := by decide +kernel
theorem d_m_render_135 : decode prog_10_method_43_code 135 = .ok (.iload 8, 2) := by decide +kernel
theorem d_m_render_137 : decode prog_10_method_43_code 137 = .ok (.bipush 8, 2) := by decide +kernel
theorem d_m_render_139 : decode prog_10_method_43_code 139 = .ok (.bipush 16, 2) := by decide +kernel
theorem d_m_render_141 : decode prog_10_method_43_code 141 = .ok (.iload 6, 2) := by decide +kernel
theorem d_m_render_143 : decode prog_10_method_43_code 143 = .ok (.imul, 1) := by decide +kernel
theorem d_m_render_144 : decode prog_10_method_43_code 144 = .ok (.iadd, 1) := by decide +kernel
theorem d_m_render_145 : decode prog_10_method_43_code 145 = .ok (.bipush 8, 2) := by decide +kernel
theorem d_m_render_147 : decode prog_10_method_43_code 147 = .ok (.bipush 16, 2) := by decide +kernel
theorem d_m_render_149 : decode prog_10_method_43_code 149 = .ok (.iload 5, 2) := by decide +kernel
theorem d_m_render_151 : decode prog_10_method_43_code 151 = .ok (.imul, 1) := by decide +kernel
theorem d_m_render_152 : decode prog_10_method_43_code 152 = .ok (.iadd, 1) := by decide +kernel
theorem d_m_render_153 : decode prog_10_method_43_code 153 = .ok (.invokevirtual 255, 3) := by decide +kernel
theorem d_m_render_156 : decode prog_10_method_43_code 156 = .ok (.iadd, 1) := by decide +kernel
theorem d_m_render_157 : decode prog_10_method_43_code 157 = .ok (.istore 7, 2) := by decide +kernel
theorem d_m_render_159 : decode prog_10_method_43_code 159 = .ok (.iinc 8 1, 3) := by decide +kernel
theorem d_m_render_162 : decode prog_10_method_43_code 162 = .ok (.goto (-39), 3) := by decide +kernel
theorem d_m_render_165 : decode prog_10_method_43_code 165 = .ok (.iload_n 3, 1) := by decide +kernel
theorem d_m_render_166 : decode prog_10_method_43_code 166 = .ok (.ifCond .ne 11, 3) := by decide +kernel
theorem d_m_render_169 : decode prog_10_method_43_code 169 = .ok (.iload 7, 2) := by decide +kernel
theorem d_m_render_171 : decode prog_10_method_43_code 171 = .ok (.ifCond .eq 40, 3) := by decide +kernel
theorem d_m_render_174 : decode prog_10_method_43_code 174 = .ok (.goto 11, 3) := by decide +kernel
theorem d_m_render_177 : decode prog_10_method_43_code 177 = .ok (.iload 7, 2) := by decide +kernel
theorem d_m_render_179 : decode prog_10_method_43_code 179 = .ok (.iconst 1, 1) := by decide +kernel
theorem d_m_render_180 : decode prog_10_method_43_code 180 = .ok (.iand, 1) := by decide +kernel
theorem d_m_render_181 : decode prog_10_method_43_code 181 = .ok (.iconst 1, 1) := by decide +kernel
theorem d_m_render_182 : decode prog_10_method_43_code 182 = .ok (.if_icmp .ne 29, 3) := by decide +kernel
theorem d_m_render_185 : decode prog_10_method_43_code 185 = .ok (.aload_n 0, 1) := by decide +kernel
theorem d_m_render_186 : decode prog_10_method_43_code 186 = .ok (.getfield 47, 3) := by decide +kernel
theorem d_m_render_189 : decode prog_10_method_43_code 189 = .ok (.bipush 8, 2) := by decide +kernel
theorem d_m_render_191 : decode prog_10_method_43_code 191 = .ok (.iload 5, 2) := by decide +kernel
theorem d_m_render_193 : decode prog_10_method_43_code 193 = .ok (.bipush 16, 2) := by decide +kernel
theorem d_m_render_195 : decode prog_10_method_43_code 195 = .ok (.idiv, 1) := by decide +kernel
theorem d_m_render_196 : decode prog_10_method_43_code 196 = .ok (.imul, 1) := by decide +kernel
theorem d_m_render_197 : decode prog_10_method_43_code 197 = .ok (.iload 6, 2) := by decide +kernel
theorem d_m_render_199 : decode prog_10_method_43_code 199 = .ok (.bipush 16, 2) := by decide +kernel
theorem d_m_render_201 : decode prog_10_method_43_code 201 = .ok (.idiv, 1) := by decide +kernel
theorem d_m_render_202 : decode prog_10_method_43_code 202 = .ok (.iadd, 1) := by decide +kernel
theorem d_m_render_203 : decode prog_10_method_43_code 203 = .ok (.dup2, 1) := by decide +kernel
theorem d_m_render_204 : decode prog_10_method_43_code 204 = .ok (.iaload, 1) := by decide +kernel
theorem d_m_render_205 : decode prog_10_method_43_code 205 = .ok (.iconst 1, 1) := by decide +kernel
theorem d_m_render_206 : decode prog_10_method_43_code 206 = .ok (.iadd, 1) := by decide +kernel
theorem d_m_render_207 : decode prog_10_method_43_code 207 = .ok (.iastore, 1) := by decide +kernel
theorem d_m_render_208 : decode prog_10_method_43_code 208 = .ok (.iinc 4 1, 3) := by decide +kernel
theorem d_m_render_211 : decode prog_10_method_43_code 211 = .ok (.iinc 6 1, 3) := by decide +kernel
theorem d_m_render_214 : decode prog_10_method_43_code 214 = .ok (.goto (-106), 3) := by decide +kernel
theorem d_m_render_217 : decode prog_10_method_43_code 217 = .ok (.iinc 5 1, 3) := by decide +kernel
theorem d_m_render_220 : decode prog_10_method_43_code 220 = .ok (.goto (-124), 3) := by decide +kernel
theorem d_m_render_223 : decode prog_10_method_43_code 223 = .ok (.iload 4, 2) := by decide +kernel
theorem d_m_render_225 : decode prog_10_method_43_code 225 = .ok (.ireturn, 1) := by decide +kernel
theorem d_m_covered_0 : decode prog_10_method_44_code 0 = .ok (.aload_n 0, 1) := by decide +kernel
theorem d_m_covered_1 : decode prog_10_method_44_code 1 = .ok (.iload_n 1, 1) := by decide +kernel
theorem d_m_covered_2 : decode prog_10_method_44_code 2 = .ok (.i2l, 1) := by decide +kernel
theorem d_m_covered_3 : decode prog_10_method_44_code 3 = .ok (.lconst 0, 1) := by decide +kernel
theorem d_m_covered_4 : decode prog_10_method_44_code 4 = .ok (.aload_n 0, 1) := by decide +kernel
theorem d_m_covered_5 : decode prog_10_method_44_code 5 = .ok (.getfield 249, 3) := by decide +kernel
theorem d_m_covered_8 : decode prog_10_method_44_code 8 = .ok (.i2l, 1) := by decide +kernel
theorem d_m_covered_9 : decode prog_10_method_44_code 9 = .ok (.lconst 1, 1) := by decide +kernel
theorem d_m_covered_10 : decode prog_10_method_44_code 10 = .ok (.lsub, 1) := by decide +kernel
theorem d_m_covered_11 : decode prog_10_method_44_code 11 = .ok (.invokestatic 62, 3) := by decide +kernel
theorem d_m_covered_14 : decode prog_10_method_44_code 14 = .ok (.ifCond .eq 23, 3) := by decide +kernel
theorem d_m_covered_17 : decode prog_10_method_44_code 17 = .ok (.iload_n 2, 1) := by decide +kernel
theorem d_m_covered_18 : decode prog_10_method_44_code 18 = .ok (.i2l, 1) := by decide +kernel
theorem d_m_covered_19 : decode prog_10_method_44_code 19 = .ok (.lconst 0, 1) := by decide +kernel
theorem d_m_covered_20 : decode prog_10_method_44_code 20 = .ok (.aload_n 0, 1) := by decide +kernel
theorem d_m_covered_21 : decode prog_10_method_44_code 21 = .ok (.getfield 252, 3) := by decide +kernel
theorem d_m_covered_24 : decode prog_10_method_44_code 24 = .ok (.i2l, 1) := by decide +kernel
theorem d_m_covered_25 : decode prog_10_method_44_code 25 = .ok (.lconst 1, 1) := by decide +kernel
theorem d_m_covered_26 : decode prog_10_method_44_code 26 = .ok (.lsub, 1) := by decide +kernel
theorem d_m_covered_27 : decode prog_10_method_44_code 27 = .ok (.invokestatic 62, 3) := by decide +kernel
theorem d_m_covered_30 : decode prog_10_method_44_code 30 = .ok (.ifCond .eq 7, 3) := by decide +kernel
theorem d_m_covered_33 : decode prog_10_method_44_code 33 = .ok (.iconst 0, 1) := by decide +kernel
theorem d_m_covered_34 : decode prog_10_method_44_code 34 = .ok (.goto 4, 3) := by decide +kernel
theorem d_m_covered_37 : decode prog_10_method_44_code 37 = .ok (.iconst 1, 1) := by decide +kernel
theorem d_m_covered_38 : decode prog_10_method_44_code 38 = .ok (.putfield 50, 3) := by decide +kernel
theorem d_m_covered_41 : decode prog_10_method_44_code 41 = .ok (.aload_n 0, 1) := by decide +kernel
theorem d_m_covered_42 : decode prog_10_method_44_code 42 = .ok (.getfield 50, 3) := by decide +kernel
theorem d_m_covered_45 : decode prog_10_method_44_code 45 = .ok (.ifCond .le 7, 3) := by decide +kernel
theorem d_m_covered_48 : decode prog_10_method_44_code 48 = .ok (.iconst 0, 1) := by decide +kernel
theorem d_m_covered_49 : decode prog_10_method_44_code 49 = .ok (.goto 14, 3) := by decide +kernel
theorem d_m_covered_52 : decode prog_10_method_44_code 52 = .ok (.aload_n 0, 1) := by decide +kernel
theorem d_m_covered_53 : decode prog_10_method_44_code 53 = .ok (.getfield 47, 3) := by decide +kernel
theorem d_m_covered_56 : decode prog_10_method_44_code 56 = .ok (.bipush 8, 2) := by decide +kernel
theorem d_m_covered_58 : decode prog_10_method_44_code 58 = .ok (.iload_n 2, 1) := by decide +kernel
theorem d_m_covered_59 : decode prog_10_method_44_code 59 = .ok (.imul, 1) := by decide +kernel
theorem d_m_covered_60 : decode prog_10_method_44_code 60 = .ok (.iload_n 1, 1) := by decide +kernel
theorem d_m_covered_61 : decode prog_10_method_44_code 61 = .ok (.iadd, 1) := by decide +kernel
theorem d_m_covered_62 : decode prog_10_method_44_code 62 = .ok (.iaload, 1) := by decide +kernel
theorem d_m_covered_63 : decode prog_10_method_44_code 63 = .ok (.ireturn, 1) := by decide +kernel
theorem d_m_bound_0 : decode prog_10_method_45_code 0 = .ok (.aload_n 0, 1) := by decide +kernel
theorem d_m_bound_1 : decode prog_10_method_45_code 1 = .ok (.iconst 0, 1) := by decide +kernel
theorem d_m_bound_2 : decode prog_10_method_45_code 2 = .ok (.putfield 50, 3) := by decide +kernel
theorem d_m_bound_5 : decode prog_10_method_45_code 5 = .ok (.iload_n 1, 1) := by decide +kernel
theorem d_m_bound_6 : decode prog_10_method_45_code 6 = .ok (.i2l, 1) := by decide +kernel
theorem d_m_bound_7 : decode prog_10_method_45_code 7 = .ok (.lconst 0, 1) := by decide +kernel
theorem d_m_bound_8 : decode prog_10_method_45_code 8 = .ok (.ldc2_w 171, 3) := by decide +kernel
theorem d_m_bound_11 : decode prog_10_method_45_code 11 = .ok (.invokestatic 62, 3) := by decide +kernel
theorem d_m_bound_14 : decode prog_10_method_45_code 14 = .ok (.ifCond .ne 5, 3) := by decide +kernel
theorem d_m_bound_17 : decode prog_10_method_45_code 17 = .ok (.iconst (-1), 1) := by decide +kernel
theorem d_m_bound_18 : decode prog_10_method_45_code 18 = .ok (.ireturn, 1) := by decide +kernel
theorem d_m_bound_19 : decode prog_10_method_45_code 19 = .ok (.iconst 0, 1) := by decide +kernel
theorem d_m_bound_20 : decode prog_10_method_45_code 20 = .ok (.istore_n 2, 1) := by decide +kernel
theorem d_m_bound_21 : decode prog_10_method_45_code 21 = .ok (.iconst 0, 1) := by decide +kernel
theorem d_m_bound_22 : decode prog_10_method_45_code 22 = .ok (.istore_n 3, 1) := by decide +kernel
theorem d_m_bound_23 : decode prog_10_method_45_code 23 = .ok (.iconst 0, 1) := by decide +kernel
theorem d_m_bound_24 : decode prog_10_method_45_code 24 = .ok (.istore 4, 2) := by decide +kernel
theorem d_m_bound_26 : decode prog_10_method_45_code 26 = .ok (.iload 4, 2) := by decide +kernel
theorem d_m_bound_28 : decode prog_10_method_45_code 28 = .ok (.aload_n 0, 1) := by decide +kernel
theorem d_m_bound_29 : decode prog_10_method_45_code 29 = .ok (.getfield 186, 3) := by decide +kernel
theorem d_m_bound_32 : decode prog_10_method_45_code 32 = .ok (.if_icmp .ge 83, 3) := by decide +kernel
theorem d_m_bound_35 : decode prog_10_method_45_code 35 = .ok (.iload_n 1, 1) := by decide +kernel
theorem d_m_bound_36 : decode prog_10_method_45_code 36 = .ok (.iconst 2, 1) := by decide +kernel
theorem d_m_bound_37 : decode prog_10_method_45_code 37 = .ok (.irem, 1) := by decide +kernel
theorem d_m_bound_38 : decode prog_10_method_45_code 38 = .ok (.istore 5, 2) := by decide +kernel
theorem d_m_bound_40 : decode prog_10_method_45_code 40 = .ok (.iload 5, 2) := by decide +kernel
theorem d_m_bound_42 : decode prog_10_method_45_code 42 = .ok (.aload_n 0, 1) := by decide +kernel
theorem d_m_bound_43 : decode prog_10_method_45_code 43 = .ok (.getfield 13, 3) := by decide +kernel
theorem d_m_bound_46 : decode prog_10_method_45_code 46 = .ok (.iload 4, 2) := by decide +kernel
theorem d_m_bound_48 : decode prog_10_method_45_code 48 = .ok (.iaload, 1) := by decide +kernel
theorem d_m_bound_49 : decode prog_10_method_45_code 49 = .ok (.invokestatic 201, 3) := by decide +kernel
theorem d_m_bound_52 : decode prog_10_method_45_code 52 = .ok (.if_icmp .ge 57, 3) := by decide +kernel
theorem d_m_bound_55 : decode prog_10_method_45_code 55 = .ok (.aload_n 0, 1) := by decide +kernel
theorem d_m_bound_56 : decode prog_10_method_45_code 56 = .ok (.getfield 16, 3) := by decide +kernel
theorem d_m_bound_59 : decode prog_10_method_45_code 59 = .ok (.bipush 6, 2) := by decide +kernel
theorem d_m_bound_61 : decode prog_10_method_45_code 61 = .ok (.iload 4, 2) := by decide +kernel
theorem d_m_bound_63 : decode prog_10_method_45_code 63 = .ok (.imul, 1) := by decide +kernel
theorem d_m_bound_64 : decode prog_10_method_45_code 64 = .ok (.iload 5, 2) := by decide +kernel
theorem d_m_bound_66 : decode prog_10_method_45_code 66 = .ok (.iadd, 1) := by decide +kernel
theorem d_m_bound_67 : decode prog_10_method_45_code 67 = .ok (.iaload, 1) := by decide +kernel
theorem d_m_bound_68 : decode prog_10_method_45_code 68 = .ok (.istore 6, 2) := by decide +kernel
theorem d_m_bound_70 : decode prog_10_method_45_code 70 = .ok (.iload_n 2, 1) := by decide +kernel
theorem d_m_bound_71 : decode prog_10_method_45_code 71 = .ok (.ifCond .eq 23, 3) := by decide +kernel
theorem d_m_bound_74 : decode prog_10_method_45_code 74 = .ok (.iload_n 1, 1) := by decide +kernel
theorem d_m_bound_75 : decode prog_10_method_45_code 75 = .ok (.iconst 2, 1) := by decide +kernel
theorem d_m_bound_76 : decode prog_10_method_45_code 76 = .ok (.if_icmp .ge 12, 3) := by decide +kernel
theorem d_m_bound_79 : decode prog_10_method_45_code 79 = .ok (.iload 6, 2) := by decide +kernel
theorem d_m_bound_81 : decode prog_10_method_45_code 81 = .ok (.iload_n 3, 1) := by decide +kernel
theorem d_m_bound_82 : decode prog_10_method_45_code 82 = .ok (.if_icmp .ge 17, 3) := by decide +kernel
theorem d_m_bound_85 : decode prog_10_method_45_code 85 = .ok (.goto 9, 3) := by decide +kernel
theorem d_m_bound_88 : decode prog_10_method_45_code 88 = .ok (.iload 6, 2) := by decide +kernel
theorem d_m_bound_90 : decode prog_10_method_45_code 90 = .ok (.iload_n 3, 1) := by decide +kernel
theorem d_m_bound_91 : decode prog_10_method_45_code 91 = .ok (.if_icmp .le 8, 3) := by decide +kernel
theorem d_m_bound_94 : decode prog_10_method_45_code 94 = .ok (.iload 6, 2) := by decide +kernel
theorem d_m_bound_96 : decode prog_10_method_45_code 96 = .ok (.goto 4, 3) := by decide +kernel
theorem d_m_bound_99 : decode prog_10_method_45_code 99 = .ok (.iload_n 3, 1) := by decide +kernel
theorem d_m_bound_100 : decode prog_10_method_45_code 100 = .ok (.istore_n 3, 1) := by decide +kernel
theorem d_m_bound_101 : decode prog_10_method_45_code 101 = .ok (.iconst 1, 1) := by decide +kernel
theorem d_m_bound_102 : decode prog_10_method_45_code 102 = .ok (.istore_n 2, 1) := by decide +kernel
theorem d_m_bound_103 : decode prog_10_method_45_code 103 = .ok (.iinc 5 2, 3) := by decide +kernel
theorem d_m_bound_106 : decode prog_10_method_45_code 106 = .ok (.goto (-66), 3) := by decide +kernel
theorem d_m_bound_109 : decode prog_10_method_45_code 109 = .ok (.iinc 4 1, 3) := by decide +kernel
theorem d_m_bound_112 : decode prog_10_method_45_code 112 = .ok (.goto (-86), 3) := by decide +kernel
theorem d_m_bound_115 : decode prog_10_method_45_code 115 = .ok (.iload_n 3, 1) := by decide +kernel
theorem d_m_bound_116 : decode prog_10_method_45_code 116 = .ok (.ireturn, 1) := by decide +kernel
theorem d_m_told_0 : decode prog_10_method_46_code 0 = .ok (.aload_n 0, 1) := by decide +kernel
theorem d_m_told_1 : decode prog_10_method_46_code 1 = .ok (.iconst 0, 1) := by decide +kernel
theorem d_m_told_2 : decode prog_10_method_46_code 2 = .ok (.putfield 50, 3) := by decide +kernel
theorem d_m_told_5 : decode prog_10_method_46_code 5 = .ok (.iload_n 1, 1) := by decide +kernel
theorem d_m_told_6 : decode prog_10_method_46_code 6 = .ok (.iconst 3, 1) := by decide +kernel
theorem d_m_told_7 : decode prog_10_method_46_code 7 = .ok (.if_icmp .ne 7, 3) := by decide +kernel
theorem d_m_told_10 : decode prog_10_method_46_code 10 = .ok (.aload_n 0, 1) := by decide +kernel
theorem d_m_told_11 : decode prog_10_method_46_code 11 = .ok (.invokevirtual 246, 3) := by decide +kernel
theorem d_m_told_14 : decode prog_10_method_46_code 14 = .ok (.iload_n 1, 1) := by decide +kernel
theorem d_m_told_15 : decode prog_10_method_46_code 15 = .ok (.ifCond .ne 10, 3) := by decide +kernel
theorem d_m_told_18 : decode prog_10_method_46_code 18 = .ok (.aload_n 0, 1) := by decide +kernel
theorem d_m_told_19 : decode prog_10_method_46_code 19 = .ok (.getfield 186, 3) := by decide +kernel
theorem d_m_told_22 : decode prog_10_method_46_code 22 = .ok (.goto 40, 3) := by decide +kernel
theorem d_m_told_25 : decode prog_10_method_46_code 25 = .ok (.iload_n 1, 1) := by decide +kernel
theorem d_m_told_26 : decode prog_10_method_46_code 26 = .ok (.iconst 1, 1) := by decide +kernel
theorem d_m_told_27 : decode prog_10_method_46_code 27 = .ok (.if_icmp .ne 10, 3) := by decide +kernel
theorem d_m_told_30 : decode prog_10_method_46_code 30 = .ok (.aload_n 0, 1) := by decide +kernel
theorem d_m_told_31 : decode prog_10_method_46_code 31 = .ok (.getfield 66, 3) := by decide +kernel
theorem d_m_told_34 : decode prog_10_method_46_code 34 = .ok (.goto 28, 3) := by decide +kernel
theorem d_m_told_37 : decode prog_10_method_46_code 37 = .ok (.iload_n 1, 1) := by decide +kernel
theorem d_m_told_38 : decode prog_10_method_46_code 38 = .ok (.iconst 2, 1) := by decide +kernel
theorem d_m_told_39 : decode prog_10_method_46_code 39 = .ok (.if_icmp .ne 10, 3) := by decide +kernel
theorem d_m_told_42 : decode prog_10_method_46_code 42 = .ok (.aload_n 0, 1) := by decide +kernel
theorem d_m_told_43 : decode prog_10_method_46_code 43 = .ok (.getfield 204, 3) := by decide +kernel
theorem d_m_told_46 : decode prog_10_method_46_code 46 = .ok (.goto 16, 3) := by decide +kernel
theorem d_m_told_49 : decode prog_10_method_46_code 49 = .ok (.iload_n 1, 1) := by decide +kernel
theorem d_m_told_50 : decode prog_10_method_46_code 50 = .ok (.iconst 3, 1) := by decide +kernel
theorem d_m_told_51 : decode prog_10_method_46_code 51 = .ok (.if_icmp .ne 10, 3) := by decide +kernel
theorem d_m_told_54 : decode prog_10_method_46_code 54 = .ok (.aload_n 0, 1) := by decide +kernel
theorem d_m_told_55 : decode prog_10_method_46_code 55 = .ok (.getfield 229, 3) := by decide +kernel
theorem d_m_told_58 : decode prog_10_method_46_code 58 = .ok (.goto 4, 3) := by decide +kernel
theorem d_m_told_61 : decode prog_10_method_46_code 61 = .ok (.iconst (-1), 1) := by decide +kernel
theorem d_m_told_62 : decode prog_10_method_46_code 62 = .ok (.ireturn, 1) := by decide +kernel
theorem d_m_clear_0 : decode prog_10_method_47_code 0 = .ok (.aload_n 0, 1) := by decide +kernel
theorem d_m_clear_1 : decode prog_10_method_47_code 1 = .ok (.iconst 0, 1) := by decide +kernel
theorem d_m_clear_2 : decode prog_10_method_47_code 2 = .ok (.putfield 50, 3) := by decide +kernel
theorem d_m_clear_5 : decode prog_10_method_47_code 5 = .ok (.aload_n 0, 1) := by decide +kernel
theorem d_m_clear_6 : decode prog_10_method_47_code 6 = .ok (.iconst 0, 1) := by decide +kernel
theorem d_m_clear_7 : decode prog_10_method_47_code 7 = .ok (.putfield 66, 3) := by decide +kernel
theorem d_m_clear_10 : decode prog_10_method_47_code 10 = .ok (.aload_n 0, 1) := by decide +kernel
theorem d_m_clear_11 : decode prog_10_method_47_code 11 = .ok (.iconst 0, 1) := by decide +kernel
theorem d_m_clear_12 : decode prog_10_method_47_code 12 = .ok (.putfield 186, 3) := by decide +kernel
theorem d_m_clear_15 : decode prog_10_method_47_code 15 = .ok (.aload_n 0, 1) := by decide +kernel
theorem d_m_clear_16 : decode prog_10_method_47_code 16 = .ok (.iconst 0, 1) := by decide +kernel
theorem d_m_clear_17 : decode prog_10_method_47_code 17 = .ok (.putfield 204, 3) := by decide +kernel
theorem d_m_clear_20 : decode prog_10_method_47_code 20 = .ok (.aload_n 0, 1) := by decide +kernel
theorem d_m_clear_21 : decode prog_10_method_47_code 21 = .ok (.iconst 0, 1) := by decide +kernel
theorem d_m_clear_22 : decode prog_10_method_47_code 22 = .ok (.putfield 249, 3) := by decide +kernel
theorem d_m_clear_25 : decode prog_10_method_47_code 25 = .ok (.aload_n 0, 1) := by decide +kernel
theorem d_m_clear_26 : decode prog_10_method_47_code 26 = .ok (.iconst 0, 1) := by decide +kernel
theorem d_m_clear_27 : decode prog_10_method_47_code 27 = .ok (.putfield 252, 3) := by decide +kernel
theorem d_m_clear_30 : decode prog_10_method_47_code 30 = .ok (.return_, 1) := by decide +kernel
theorem d_m_find_0 : decode prog_10_method_33_code 0 = .ok (.iload_n 1, 1) := by decide +kernel
theorem d_m_find_1 : decode prog_10_method_33_code 1 = .ok (.i2l, 1) := by decide +kernel
theorem d_m_find_2 : decode prog_10_method_33_code 2 = .ok (.lstore_n 2, 1) := by decide +kernel
theorem d_m_find_3 : decode prog_10_method_33_code 3 = .ok (.lload_n 2, 1) := by decide +kernel
theorem d_m_find_4 : decode prog_10_method_33_code 4 = .ok (.lconst 0, 1) := by decide +kernel
theorem d_m_find_5 : decode prog_10_method_33_code 5 = .ok (.lcmp, 1) := by decide +kernel
theorem d_m_find_6 : decode prog_10_method_33_code 6 = .ok (.ifCond .ge 7, 3) := by decide +kernel
theorem d_m_find_9 : decode prog_10_method_33_code 9 = .ok (.iconst 1, 1) := by decide +kernel
theorem d_m_find_10 : decode prog_10_method_33_code 10 = .ok (.goto 4, 3) := by decide +kernel
theorem d_m_find_13 : decode prog_10_method_33_code 13 = .ok (.iconst 0, 1) := by decide +kernel
theorem d_m_find_14 : decode prog_10_method_33_code 14 = .ok (.istore 4, 2) := by decide +kernel
theorem d_m_find_16 : decode prog_10_method_33_code 16 = .ok (.lconst 1, 1) := by decide +kernel
theorem d_m_find_17 : decode prog_10_method_33_code 17 = .ok (.lstore 5, 2) := by decide +kernel
theorem d_m_find_19 : decode prog_10_method_33_code 19 = .ok (.iconst 0, 1) := by decide +kernel
theorem d_m_find_20 : decode prog_10_method_33_code 20 = .ok (.istore 7, 2) := by decide +kernel
theorem d_m_find_22 : decode prog_10_method_33_code 22 = .ok (.aload_n 0, 1) := by decide +kernel
theorem d_m_find_23 : decode prog_10_method_33_code 23 = .ok (.iconst (-1), 1) := by decide +kernel
theorem d_m_find_24 : decode prog_10_method_33_code 24 = .ok (.putfield 103, 3) := by decide +kernel
theorem d_m_find_27 : decode prog_10_method_33_code 27 = .ok (.iload 7, 2) := by decide +kernel
theorem d_m_find_29 : decode prog_10_method_33_code 29 = .ok (.ifCond .ne 204, 3) := by decide +kernel
theorem d_m_find_32 : decode prog_10_method_33_code 32 = .ok (.aload_n 0, 1) := by decide +kernel
theorem d_m_find_33 : decode prog_10_method_33_code 33 = .ok (.dup, 1) := by decide +kernel
theorem d_m_find_34 : decode prog_10_method_33_code 34 = .ok (.getfield 103, 3) := by decide +kernel
theorem d_m_find_37 : decode prog_10_method_33_code 37 = .ok (.iconst 1, 1) := by decide +kernel
theorem d_m_find_38 : decode prog_10_method_33_code 38 = .ok (.iadd, 1) := by decide +kernel
theorem d_m_find_39 : decode prog_10_method_33_code 39 = .ok (.putfield 103, 3) := by decide +kernel
theorem d_m_find_42 : decode prog_10_method_33_code 42 = .ok (.iload 4, 2) := by decide +kernel
theorem d_m_find_44 : decode prog_10_method_33_code 44 = .ok (.ifCond .eq 8, 3) := by decide +kernel
theorem d_m_find_47 : decode prog_10_method_33_code 47 = .ok (.lload_n 2, 1) := by decide +kernel
theorem d_m_find_48 : decode prog_10_method_33_code 48 = .ok (.lneg, 1) := by decide +kernel
theorem d_m_find_49 : decode prog_10_method_33_code 49 = .ok (.goto 4, 3) := by decide +kernel
theorem d_m_find_52 : decode prog_10_method_33_code 52 = .ok (.lload_n 2, 1) := by decide +kernel
theorem d_m_find_53 : decode prog_10_method_33_code 53 = .ok (.lload 5, 2) := by decide +kernel
theorem d_m_find_55 : decode prog_10_method_33_code 55 = .ok (.lmul, 1) := by decide +kernel
theorem d_m_find_56 : decode prog_10_method_33_code 56 = .ok (.ldc2_w 108, 3) := by decide +kernel
theorem d_m_find_59 : decode prog_10_method_33_code 59 = .ok (.ldiv, 1) := by decide +kernel
theorem d_m_find_60 : decode prog_10_method_33_code 60 = .ok (.lload 5, 2) := by decide +kernel
theorem d_m_find_62 : decode prog_10_method_33_code 62 = .ok (.ldc2_w 108, 3) := by decide +kernel
theorem d_m_find_65 : decode prog_10_method_33_code 65 = .ok (.ldiv, 1) := by decide +kernel
theorem d_m_find_66 : decode prog_10_method_33_code 66 = .ok (.lsub, 1) := by decide +kernel
theorem d_m_find_67 : decode prog_10_method_33_code 67 = .ok (.ldc2_w 54, 3) := by decide +kernel
theorem d_m_find_70 : decode prog_10_method_33_code 70 = .ok (.lsub, 1) := by decide +kernel
theorem d_m_find_71 : decode prog_10_method_33_code 71 = .ok (.lstore 8, 2) := by decide +kernel
theorem d_m_find_73 : decode prog_10_method_33_code 73 = .ok (.lload 8, 2) := by decide +kernel
theorem d_m_find_75 : decode prog_10_method_33_code 75 = .ok (.lconst 0, 1) := by decide +kernel
theorem d_m_find_76 : decode prog_10_method_33_code 76 = .ok (.lcmp, 1) := by decide +kernel
theorem d_m_find_77 : decode prog_10_method_33_code 77 = .ok (.ifCond .ge 7, 3) := by decide +kernel
theorem d_m_find_80 : decode prog_10_method_33_code 80 = .ok (.lconst 0, 1) := by decide +kernel
theorem d_m_find_81 : decode prog_10_method_33_code 81 = .ok (.goto 5, 3) := by decide +kernel
theorem d_m_find_84 : decode prog_10_method_33_code 84 = .ok (.lload 8, 2) := by decide +kernel
theorem d_m_find_86 : decode prog_10_method_33_code 86 = .ok (.lstore 8, 2) := by decide +kernel
theorem d_m_find_88 : decode prog_10_method_33_code 88 = .ok (.iload 4, 2) := by decide +kernel
theorem d_m_find_90 : decode prog_10_method_33_code 90 = .ok (.ifCond .eq 8, 3) := by decide +kernel
theorem d_m_find_93 : decode prog_10_method_33_code 93 = .ok (.lload_n 2, 1) := by decide +kernel
theorem d_m_find_94 : decode prog_10_method_33_code 94 = .ok (.lneg, 1) := by decide +kernel
theorem d_m_find_95 : decode prog_10_method_33_code 95 = .ok (.goto 4, 3) := by decide +kernel
theorem d_m_find_98 : decode prog_10_method_33_code 98 = .ok (.lload_n 2, 1) := by decide +kernel
theorem d_m_find_99 : decode prog_10_method_33_code 99 = .ok (.lload 5, 2) := by decide +kernel
theorem d_m_find_101 : decode prog_10_method_33_code 101 = .ok (.lmul, 1) := by decide +kernel
theorem d_m_find_102 : decode prog_10_method_33_code 102 = .ok (.ldc2_w 108, 3) := by decide +kernel
theorem d_m_find_105 : decode prog_10_method_33_code 105 = .ok (.ldiv, 1) := by decide +kernel
theorem d_m_find_106 : decode prog_10_method_33_code 106 = .ok (.lload 5, 2) := by decide +kernel
theorem d_m_find_108 : decode prog_10_method_33_code 108 = .ok (.ldc2_w 108, 3) := by decide +kernel
theorem d_m_find_111 : decode prog_10_method_33_code 111 = .ok (.ldiv, 1) := by decide +kernel
theorem d_m_find_112 : decode prog_10_method_33_code 112 = .ok (.ladd, 1) := by decide +kernel
theorem d_m_find_113 : decode prog_10_method_33_code 113 = .ok (.ldc2_w 54, 3) := by decide +kernel
theorem d_m_find_116 : decode prog_10_method_33_code 116 = .ok (.ladd, 1) := by decide +kernel
theorem d_m_find_117 : decode prog_10_method_33_code 117 = .ok (.lstore 10, 2) := by decide +kernel
theorem d_m_find_119 : decode prog_10_method_33_code 119 = .ok (.ldc2_w 207, 3) := by decide +kernel
theorem d_m_find_122 : decode prog_10_method_33_code 122 = .ok (.lstore 12, 2) := by decide +kernel
theorem d_m_find_124 : decode prog_10_method_33_code 124 = .ok (.lload 8, 2) := by decide +kernel
theorem d_m_find_126 : decode prog_10_method_33_code 126 = .ok (.lload 10, 2) := by decide +kernel
theorem d_m_find_128 : decode prog_10_method_33_code 128 = .ok (.lcmp, 1) := by decide +kernel
theorem d_m_find_129 : decode prog_10_method_33_code 129 = .ok (.ifCond .gt 73, 3) := by decide +kernel
theorem d_m_find_132 : decode prog_10_method_33_code 132 = .ok (.iload 4, 2) := by decide +kernel
theorem d_m_find_134 : decode prog_10_method_33_code 134 = .ok (.ifCond .eq 12, 3) := by decide +kernel
theorem d_m_find_137 : decode prog_10_method_33_code 137 = .ok (.ldc2_w 106, 3) := by decide +kernel
theorem d_m_find_140 : decode prog_10_method_33_code 140 = .ok (.lload 8, 2) := by decide +kernel
theorem d_m_find_142 : decode prog_10_method_33_code 142 = .ok (.lmul, 1) := by decide +kernel
theorem d_m_find_143 : decode prog_10_method_33_code 143 = .ok (.goto 9, 3) := by decide +kernel
theorem d_m_find_146 : decode prog_10_method_33_code 146 = .ok (.ldc2_w 108, 3) := by decide +kernel
theorem d_m_find_149 : decode prog_10_method_33_code 149 = .ok (.lload 8, 2) := by decide +kernel
theorem d_m_find_151 : decode prog_10_method_33_code 151 = .ok (.lmul, 1) := by decide +kernel
theorem d_m_find_152 : decode prog_10_method_33_code 152 = .ok (.lload 5, 2) := by decide +kernel
theorem d_m_find_154 : decode prog_10_method_33_code 154 = .ok (.invokestatic 110, 3) := by decide +kernel
theorem d_m_find_157 : decode prog_10_method_33_code 157 = .ok (.lload_n 2, 1) := by decide +kernel
theorem d_m_find_158 : decode prog_10_method_33_code 158 = .ok (.lcmp, 1) := by decide +kernel
theorem d_m_find_159 : decode prog_10_method_33_code 159 = .ok (.ifCond .ne 34, 3) := by decide +kernel
theorem d_m_find_162 : decode prog_10_method_33_code 162 = .ok (.lload 12, 2) := by decide +kernel
theorem d_m_find_164 : decode prog_10_method_33_code 164 = .ok (.lconst 0, 1) := by decide +kernel
theorem d_m_find_165 : decode prog_10_method_33_code 165 = .ok (.lcmp, 1) := by decide +kernel
theorem d_m_find_166 : decode prog_10_method_33_code 166 = .ok (.ifCond .lt 23, 3) := by decide +kernel
theorem d_m_find_169 : decode prog_10_method_33_code 169 = .ok (.lload 8, 2) := by decide +kernel
theorem d_m_find_171 : decode prog_10_method_33_code 171 = .ok (.lload_n 2, 1) := by decide +kernel
theorem d_m_find_172 : decode prog_10_method_33_code 172 = .ok (.lload 5, 2) := by decide +kernel
theorem d_m_find_174 : decode prog_10_method_33_code 174 = .ok (.invokestatic 209, 3) := by decide +kernel
theorem d_m_find_177 : decode prog_10_method_33_code 177 = .ok (.lload 12, 2) := by decide +kernel
theorem d_m_find_179 : decode prog_10_method_33_code 179 = .ok (.lload_n 2, 1) := by decide +kernel
theorem d_m_find_180 : decode prog_10_method_33_code 180 = .ok (.lload 5, 2) := by decide +kernel
theorem d_m_find_182 : decode prog_10_method_33_code 182 = .ok (.invokestatic 209, 3) := by decide +kernel
theorem d_m_find_185 : decode prog_10_method_33_code 185 = .ok (.lcmp, 1) := by decide +kernel
theorem d_m_find_186 : decode prog_10_method_33_code 186 = .ok (.ifCond .ge 7, 3) := by decide +kernel
theorem d_m_find_189 : decode prog_10_method_33_code 189 = .ok (.lload 8, 2) := by decide +kernel
theorem d_m_find_191 : decode prog_10_method_33_code 191 = .ok (.lstore 12, 2) := by decide +kernel
theorem d_m_find_193 : decode prog_10_method_33_code 193 = .ok (.lload 8, 2) := by decide +kernel
theorem d_m_find_195 : decode prog_10_method_33_code 195 = .ok (.lconst 1, 1) := by decide +kernel
theorem d_m_find_196 : decode prog_10_method_33_code 196 = .ok (.ladd, 1) := by decide +kernel
theorem d_m_find_197 : decode prog_10_method_33_code 197 = .ok (.lstore 8, 2) := by decide +kernel
theorem d_m_find_199 : decode prog_10_method_33_code 199 = .ok (.goto (-75), 3) := by decide +kernel
theorem d_m_find_202 : decode prog_10_method_33_code 202 = .ok (.lload 12, 2) := by decide +kernel
theorem d_m_find_204 : decode prog_10_method_33_code 204 = .ok (.lconst 0, 1) := by decide +kernel
theorem d_m_find_205 : decode prog_10_method_33_code 205 = .ok (.lcmp, 1) := by decide +kernel
theorem d_m_find_206 : decode prog_10_method_33_code 206 = .ok (.ifCond .lt 7, 3) := by decide +kernel
theorem d_m_find_209 : decode prog_10_method_33_code 209 = .ok (.iconst 1, 1) := by decide +kernel
theorem d_m_find_210 : decode prog_10_method_33_code 210 = .ok (.goto 4, 3) := by decide +kernel
theorem d_m_find_213 : decode prog_10_method_33_code 213 = .ok (.iconst 0, 1) := by decide +kernel
theorem d_m_find_214 : decode prog_10_method_33_code 214 = .ok (.istore 7, 2) := by decide +kernel
theorem d_m_find_216 : decode prog_10_method_33_code 216 = .ok (.aload_n 0, 1) := by decide +kernel
theorem d_m_find_217 : decode prog_10_method_33_code 217 = .ok (.lload 12, 2) := by decide +kernel
theorem d_m_find_219 : decode prog_10_method_33_code 219 = .ok (.putfield 80, 3) := by decide +kernel
theorem d_m_find_222 : decode prog_10_method_33_code 222 = .ok (.lload 5, 2) := by decide +kernel
theorem d_m_find_224 : decode prog_10_method_33_code 224 = .ok (.ldc2_w 86, 3) := by decide +kernel
theorem d_m_find_227 : decode prog_10_method_33_code 227 = .ok (.lmul, 1) := by decide +kernel
theorem d_m_find_228 : decode prog_10_method_33_code 228 = .ok (.lstore 5, 2) := by decide +kernel
theorem d_m_find_230 : decode prog_10_method_33_code 230 = .ok (.goto (-203), 3) := by decide +kernel
theorem d_m_find_233 : decode prog_10_method_33_code 233 = .ok (.return_, 1) := by decide +kernel
theorem d_m_sayNumeral_0 : decode prog_10_method_35_code 0 = .ok (.aload_n 0, 1) := by decide +kernel
theorem d_m_sayNumeral_1 : decode prog_10_method_35_code 1 = .ok (.iload_n 1, 1) := by decide +kernel
theorem d_m_sayNumeral_2 : decode prog_10_method_35_code 2 = .ok (.invokevirtual 213, 3) := by decide +kernel
theorem d_m_sayNumeral_5 : decode prog_10_method_35_code 5 = .ok (.lconst 1, 1) := by decide +kernel
theorem d_m_sayNumeral_6 : decode prog_10_method_35_code 6 = .ok (.lstore 4, 2) := by decide +kernel
theorem d_m_sayNumeral_8 : decode prog_10_method_35_code 8 = .ok (.iconst 0, 1) := by decide +kernel
theorem d_m_sayNumeral_9 : decode prog_10_method_35_code 9 = .ok (.istore 6, 2) := by decide +kernel
theorem d_m_sayNumeral_11 : decode prog_10_method_35_code 11 = .ok (.iload 6, 2) := by decide +kernel
theorem d_m_sayNumeral_13 : decode prog_10_method_35_code 13 = .ok (.aload_n 0, 1) := by decide +kernel
theorem d_m_sayNumeral_14 : decode prog_10_method_35_code 14 = .ok (.getfield 103, 3) := by decide +kernel
theorem d_m_sayNumeral_17 : decode prog_10_method_35_code 17 = .ok (.if_icmp .ge 17, 3) := by decide +kernel
theorem d_m_sayNumeral_20 : decode prog_10_method_35_code 20 = .ok (.lload 4, 2) := by decide +kernel
theorem d_m_sayNumeral_22 : decode prog_10_method_35_code 22 = .ok (.ldc2_w 86, 3) := by decide +kernel
theorem d_m_sayNumeral_25 : decode prog_10_method_35_code 25 = .ok (.lmul, 1) := by decide +kernel
theorem d_m_sayNumeral_26 : decode prog_10_method_35_code 26 = .ok (.lstore 4, 2) := by decide +kernel
theorem d_m_sayNumeral_28 : decode prog_10_method_35_code 28 = .ok (.iinc 6 1, 3) := by decide +kernel
theorem d_m_sayNumeral_31 : decode prog_10_method_35_code 31 = .ok (.goto (-20), 3) := by decide +kernel
theorem d_m_sayNumeral_34 : decode prog_10_method_35_code 34 = .ok (.aload_n 0, 1) := by decide +kernel
theorem d_m_sayNumeral_35 : decode prog_10_method_35_code 35 = .ok (.getfield 80, 3) := by decide +kernel
theorem d_m_sayNumeral_38 : decode prog_10_method_35_code 38 = .ok (.lload 4, 2) := by decide +kernel
theorem d_m_sayNumeral_40 : decode prog_10_method_35_code 40 = .ok (.ldiv, 1) := by decide +kernel
theorem d_m_sayNumeral_41 : decode prog_10_method_35_code 41 = .ok (.lstore 6, 2) := by decide +kernel
theorem d_m_sayNumeral_43 : decode prog_10_method_35_code 43 = .ok (.lload 6, 2) := by decide +kernel
theorem d_m_sayNumeral_45 : decode prog_10_method_35_code 45 = .ok (.lconst 0, 1) := by decide +kernel
theorem d_m_sayNumeral_46 : decode prog_10_method_35_code 46 = .ok (.lcmp, 1) := by decide +kernel
theorem d_m_sayNumeral_47 : decode prog_10_method_35_code 47 = .ok (.ifCond .ne 14, 3) := by decide +kernel
theorem d_m_sayNumeral_50 : decode prog_10_method_35_code 50 = .ok (.aload_n 0, 1) := by decide +kernel
theorem d_m_sayNumeral_51 : decode prog_10_method_35_code 51 = .ok (.getfield 103, 3) := by decide +kernel
theorem d_m_sayNumeral_54 : decode prog_10_method_35_code 54 = .ok (.ifCond .le 7, 3) := by decide +kernel
theorem d_m_sayNumeral_57 : decode prog_10_method_35_code 57 = .ok (.iconst 1, 1) := by decide +kernel
theorem d_m_sayNumeral_58 : decode prog_10_method_35_code 58 = .ok (.goto 4, 3) := by decide +kernel
theorem d_m_sayNumeral_61 : decode prog_10_method_35_code 61 = .ok (.iconst 0, 1) := by decide +kernel
theorem d_m_sayNumeral_62 : decode prog_10_method_35_code 62 = .ok (.istore 8, 2) := by decide +kernel
theorem d_m_sayNumeral_64 : decode prog_10_method_35_code 64 = .ok (.iload_n 2, 1) := by decide +kernel
theorem d_m_sayNumeral_65 : decode prog_10_method_35_code 65 = .ok (.ifCond .ne 22, 3) := by decide +kernel
theorem d_m_sayNumeral_68 : decode prog_10_method_35_code 68 = .ok (.iload_n 1, 1) := by decide +kernel
theorem d_m_sayNumeral_69 : decode prog_10_method_35_code 69 = .ok (.ifCond .lt 18, 3) := by decide +kernel
theorem d_m_sayNumeral_72 : decode prog_10_method_35_code 72 = .ok (.iload 8, 2) := by decide +kernel
theorem d_m_sayNumeral_74 : decode prog_10_method_35_code 74 = .ok (.ifCond .eq 7, 3) := by decide +kernel
theorem d_m_sayNumeral_77 : decode prog_10_method_35_code 77 = .ok (.iload_n 3, 1) := by decide +kernel
theorem d_m_sayNumeral_78 : decode prog_10_method_35_code 78 = .ok (.ifCond .ne 9, 3) := by decide +kernel
theorem d_m_sayNumeral_81 : decode prog_10_method_35_code 81 = .ok (.aload_n 0, 1) := by decide +kernel
theorem d_m_sayNumeral_82 : decode prog_10_method_35_code 82 = .ok (.bipush 32, 2) := by decide +kernel
theorem d_m_sayNumeral_84 : decode prog_10_method_35_code 84 = .ok (.invokevirtual 216, 3) := by decide +kernel
theorem d_m_sayNumeral_87 : decode prog_10_method_35_code 87 = .ok (.iload_n 1, 1) := by decide +kernel
theorem d_m_sayNumeral_88 : decode prog_10_method_35_code 88 = .ok (.ifCond .ge 9, 3) := by decide +kernel
theorem d_m_sayNumeral_91 : decode prog_10_method_35_code 91 = .ok (.aload_n 0, 1) := by decide +kernel
theorem d_m_sayNumeral_92 : decode prog_10_method_35_code 92 = .ok (.bipush 45, 2) := by decide +kernel
theorem d_m_sayNumeral_94 : decode prog_10_method_35_code 94 = .ok (.invokevirtual 216, 3) := by decide +kernel
theorem d_m_sayNumeral_97 : decode prog_10_method_35_code 97 = .ok (.iload 8, 2) := by decide +kernel
theorem d_m_sayNumeral_99 : decode prog_10_method_35_code 99 = .ok (.ifCond .ne 10, 3) := by decide +kernel
theorem d_m_sayNumeral_102 : decode prog_10_method_35_code 102 = .ok (.aload_n 0, 1) := by decide +kernel
theorem d_m_sayNumeral_103 : decode prog_10_method_35_code 103 = .ok (.lload 6, 2) := by decide +kernel
theorem d_m_sayNumeral_105 : decode prog_10_method_35_code 105 = .ok (.iconst 0, 1) := by decide +kernel
theorem d_m_sayNumeral_106 : decode prog_10_method_35_code 106 = .ok (.invokevirtual 219, 3) := by decide +kernel
theorem d_m_sayNumeral_109 : decode prog_10_method_35_code 109 = .ok (.aload_n 0, 1) := by decide +kernel
theorem d_m_sayNumeral_110 : decode prog_10_method_35_code 110 = .ok (.getfield 103, 3) := by decide +kernel
theorem d_m_sayNumeral_113 : decode prog_10_method_35_code 113 = .ok (.ifCond .le 24, 3) := by decide +kernel
theorem d_m_sayNumeral_116 : decode prog_10_method_35_code 116 = .ok (.aload_n 0, 1) := by decide +kernel
theorem d_m_sayNumeral_117 : decode prog_10_method_35_code 117 = .ok (.bipush 46, 2) := by decide +kernel
theorem d_m_sayNumeral_119 : decode prog_10_method_35_code 119 = .ok (.invokevirtual 216, 3) := by decide +kernel
theorem d_m_sayNumeral_122 : decode prog_10_method_35_code 122 = .ok (.aload_n 0, 1) := by decide +kernel
theorem d_m_sayNumeral_123 : decode prog_10_method_35_code 123 = .ok (.aload_n 0, 1) := by decide +kernel
theorem d_m_sayNumeral_124 : decode prog_10_method_35_code 124 = .ok (.getfield 80, 3) := by decide +kernel
theorem d_m_sayNumeral_127 : decode prog_10_method_35_code 127 = .ok (.lload 4, 2) := by decide +kernel
theorem d_m_sayNumeral_129 : decode prog_10_method_35_code 129 = .ok (.lrem, 1) := by decide +kernel
theorem d_m_sayNumeral_130 : decode prog_10_method_35_code 130 = .ok (.aload_n 0, 1) := by decide +kernel
theorem d_m_sayNumeral_131 : decode prog_10_method_35_code 131 = .ok (.getfield 103, 3) := by decide +kernel
theorem d_m_sayNumeral_134 : decode prog_10_method_35_code 134 = .ok (.invokevirtual 219, 3) := by decide +kernel
theorem d_m_sayNumeral_137 : decode prog_10_method_35_code 137 = .ok (.aload_n 0, 1) := by decide +kernel
theorem d_m_sayNumeral_138 : decode prog_10_method_35_code 138 = .ok (.getfield 103, 3) := by decide +kernel
theorem d_m_sayNumeral_141 : decode prog_10_method_35_code 141 = .ok (.ifCond .le 7, 3) := by decide +kernel
theorem d_m_sayNumeral_144 : decode prog_10_method_35_code 144 = .ok (.iconst 1, 1) := by decide +kernel
theorem d_m_sayNumeral_145 : decode prog_10_method_35_code 145 = .ok (.goto 4, 3) := by decide +kernel
theorem d_m_sayNumeral_148 : decode prog_10_method_35_code 148 = .ok (.iconst 0, 1) := by decide +kernel
theorem d_m_sayNumeral_149 : decode prog_10_method_35_code 149 = .ok (.ireturn, 1) := by decide +kernel
theorem d_m_write_0 : decode prog_10_method_37_code 0 = .ok (.aload_n 0, 1) := by decide +kernel
theorem d_m_write_1 : decode prog_10_method_37_code 1 = .ok (.iconst 0, 1) := by decide +kernel
theorem d_m_write_2 : decode prog_10_method_37_code 2 = .ok (.putfield 50, 3) := by decide +kernel
theorem d_m_write_5 : decode prog_10_method_37_code 5 = .ok (.aload_n 0, 1) := by decide +kernel
theorem d_m_write_6 : decode prog_10_method_37_code 6 = .ok (.iconst 0, 1) := by decide +kernel
theorem d_m_write_7 : decode prog_10_method_37_code 7 = .ok (.putfield 204, 3) := by decide +kernel
theorem d_m_write_10 : decode prog_10_method_37_code 10 = .ok (.iconst 0, 1) := by decide +kernel
theorem d_m_write_11 : decode prog_10_method_37_code 11 = .ok (.istore_n 1, 1) := by decide +kernel
theorem d_m_write_12 : decode prog_10_method_37_code 12 = .ok (.iload_n 1, 1) := by decide +kernel
theorem d_m_write_13 : decode prog_10_method_37_code 13 = .ok (.aload_n 0, 1) := by decide +kernel
theorem d_m_write_14 : decode prog_10_method_37_code 14 = .ok (.getfield 186, 3) := by decide +kernel
theorem d_m_write_17 : decode prog_10_method_37_code 17 = .ok (.if_icmp .ge 108, 3) := by decide +kernel
theorem d_m_write_20 : decode prog_10_method_37_code 20 = .ok (.aload_n 0, 1) := by decide +kernel
theorem d_m_write_21 : decode prog_10_method_37_code 21 = .ok (.aload_n 0, 1) := by decide +kernel
theorem d_m_write_22 : decode prog_10_method_37_code 22 = .ok (.getfield 13, 3) := by decide +kernel
theorem d_m_write_25 : decode prog_10_method_37_code 25 = .ok (.iload_n 1, 1) := by decide +kernel
theorem d_m_write_26 : decode prog_10_method_37_code 26 = .ok (.iaload, 1) := by decide +kernel
theorem d_m_write_27 : decode prog_10_method_37_code 27 = .ok (.ifCond .ne 8, 3) := by decide +kernel
theorem d_m_write_30 : decode prog_10_method_37_code 30 = .ok (.bipush 77, 2) := by decide +kernel
theorem d_m_write_32 : decode prog_10_method_37_code 32 = .ok (.goto 35, 3) := by decide +kernel
theorem d_m_write_35 : decode prog_10_method_37_code 35 = .ok (.aload_n 0, 1) := by decide +kernel
theorem d_m_write_36 : decode prog_10_method_37_code 36 = .ok (.getfield 13, 3) := by decide +kernel
theorem d_m_write_39 : decode prog_10_method_37_code 39 = .ok (.iload_n 1, 1) := by decide +kernel
theorem d_m_write_40 : decode prog_10_method_37_code 40 = .ok (.iaload, 1) := by decide +kernel
theorem d_m_write_41 : decode prog_10_method_37_code 41 = .ok (.iconst 1, 1) := by decide +kernel
theorem d_m_write_42 : decode prog_10_method_37_code 42 = .ok (.if_icmp .ne 8, 3) := by decide +kernel
theorem d_m_write_45 : decode prog_10_method_37_code 45 = .ok (.bipush 76, 2) := by decide +kernel
theorem d_m_write_47 : decode prog_10_method_37_code 47 = .ok (.goto 20, 3) := by decide +kernel
theorem d_m_write_50 : decode prog_10_method_37_code 50 = .ok (.aload_n 0, 1) := by decide +kernel
theorem d_m_write_51 : decode prog_10_method_37_code 51 = .ok (.getfield 13, 3) := by decide +kernel
theorem d_m_write_54 : decode prog_10_method_37_code 54 = .ok (.iload_n 1, 1) := by decide +kernel
theorem d_m_write_55 : decode prog_10_method_37_code 55 = .ok (.iaload, 1) := by decide +kernel
theorem d_m_write_56 : decode prog_10_method_37_code 56 = .ok (.iconst 2, 1) := by decide +kernel
theorem d_m_write_57 : decode prog_10_method_37_code 57 = .ok (.if_icmp .ne 8, 3) := by decide +kernel
theorem d_m_write_60 : decode prog_10_method_37_code 60 = .ok (.bipush 67, 2) := by decide +kernel
theorem d_m_write_62 : decode prog_10_method_37_code 62 = .ok (.goto 5, 3) := by decide +kernel
theorem d_m_write_65 : decode prog_10_method_37_code 65 = .ok (.bipush 90, 2) := by decide +kernel
theorem d_m_write_67 : decode prog_10_method_37_code 67 = .ok (.invokevirtual 216, 3) := by decide +kernel
theorem d_m_write_70 : decode prog_10_method_37_code 70 = .ok (.iconst 0, 1) := by decide +kernel
theorem d_m_write_71 : decode prog_10_method_37_code 71 = .ok (.istore_n 2, 1) := by decide +kernel
theorem d_m_write_72 : decode prog_10_method_37_code 72 = .ok (.iconst 0, 1) := by decide +kernel
theorem d_m_write_73 : decode prog_10_method_37_code 73 = .ok (.istore_n 3, 1) := by decide +kernel
theorem d_m_write_74 : decode prog_10_method_37_code 74 = .ok (.iload_n 3, 1) := by decide +kernel
theorem d_m_write_75 : decode prog_10_method_37_code 75 = .ok (.aload_n 0, 1) := by decide +kernel
theorem d_m_write_76 : decode prog_10_method_37_code 76 = .ok (.getfield 13, 3) := by decide +kernel
theorem d_m_write_79 : decode prog_10_method_37_code 79 = .ok (.iload_n 1, 1) := by decide +kernel
theorem d_m_write_80 : decode prog_10_method_37_code 80 = .ok (.iaload, 1) := by decide +kernel
theorem d_m_write_81 : decode prog_10_method_37_code 81 = .ok (.invokestatic 201, 3) := by decide +kernel
theorem d_m_write_84 : decode prog_10_method_37_code 84 = .ok (.if_icmp .ge 35, 3) := by decide +kernel
theorem d_m_write_87 : decode prog_10_method_37_code 87 = .ok (.aload_n 0, 1) := by decide +kernel
theorem d_m_write_88 : decode prog_10_method_37_code 88 = .ok (.aload_n 0, 1) := by decide +kernel
theorem d_m_write_89 : decode prog_10_method_37_code 89 = .ok (.getfield 16, 3) := by decide +kernel
theorem d_m_write_92 : decode prog_10_method_37_code 92 = .ok (.bipush 6, 2) := by decide +kernel
theorem d_m_write_94 : decode prog_10_method_37_code 94 = .ok (.iload_n 1, 1) := by decide +kernel
theorem d_m_write_95 : decode prog_10_method_37_code 95 = .ok (.imul, 1) := by decide +kernel
theorem d_m_write_96 : decode prog_10_method_37_code 96 = .ok (.iload_n 3, 1) := by decide +kernel
theorem d_m_write_97 : decode prog_10_method_37_code 97 = .ok (.iadd, 1) := by decide +kernel
theorem d_m_write_98 : decode prog_10_method_37_code 98 = .ok (.iaload, 1) := by decide +kernel
theorem d_m_write_99 : decode prog_10_method_37_code 99 = .ok (.iload_n 3, 1) := by decide +kernel
theorem d_m_write_100 : decode prog_10_method_37_code 100 = .ok (.ifCond .ne 7, 3) := by decide +kernel
theorem d_m_write_103 : decode prog_10_method_37_code 103 = .ok (.iconst 1, 1) := by decide +kernel
theorem d_m_write_104 : decode prog_10_method_37_code 104 = .ok (.goto 4, 3) := by decide +kernel
theorem d_m_write_107 : decode prog_10_method_37_code 107 = .ok (.iconst 0, 1) := by decide +kernel
theorem d_m_write_108 : decode prog_10_method_37_code 108 = .ok (.iload_n 2, 1) := by decide +kernel
theorem d_m_write_109 : decode prog_10_method_37_code 109 = .ok (.invokevirtual 225, 3) := by decide +kernel
theorem d_m_write_112 : decode prog_10_method_37_code 112 = .ok (.istore_n 2, 1) := by decide +kernel
theorem d_m_write_113 : decode prog_10_method_37_code 113 = .ok (.iinc 3 1, 3) := by decide +kernel
theorem d_m_write_116 : decode prog_10_method_37_code 116 = .ok (.goto (-42), 3) := by decide +kernel
theorem d_m_write_119 : decode prog_10_method_37_code 119 = .ok (.iinc 1 1, 3) := by decide +kernel
theorem d_m_write_122 : decode prog_10_method_37_code 122 = .ok (.goto (-110), 3) := by decide +kernel
theorem d_m_write_125 : decode prog_10_method_37_code 125 = .ok (.aload_n 0, 1) := by decide +kernel
theorem d_m_write_126 : decode prog_10_method_37_code 126 = .ok (.getfield 204, 3) := by decide +kernel
theorem d_m_write_129 : decode prog_10_method_37_code 129 = .ok (.ireturn, 1) := by decide +kernel
