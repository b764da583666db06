def yJM_min : MethodName := ⟨"java/lang/Math", "min", "(II)I"⟩
abbrev cJM_min : ByteArray := prog_16_method_69_code
def yJA_fillI : MethodName := ⟨"java/util/Arrays", "fill", "([II)V"⟩
abbrev cJA_fillI : ByteArray := prog_18_method_103_code
def yJM_max : MethodName := ⟨"java/lang/Math", "max", "(II)I"⟩
abbrev cJM_max : ByteArray := prog_16_method_65_code
def yJA_fillIR : MethodName := ⟨"java/util/Arrays", "fill", "([IIII)V"⟩
abbrev cJA_fillIR : ByteArray := prog_18_method_104_code
def yJA_rangeCheck : MethodName := ⟨"java/util/Arrays", "rangeCheck", "(III)V"⟩
abbrev cJA_rangeCheck : ByteArray := prog_18_method_30_code
def yJI_bitCount : MethodName := ⟨"java/lang/Integer", "bitCount", "(I)I"⟩
abbrev cJI_bitCount : ByteArray := prog_14_method_49_code
def yJA_fillL : MethodName := ⟨"java/util/Arrays", "fill", "([JJ)V"⟩
abbrev cJA_fillL : ByteArray := prog_18_method_101_code
def yJL_bitCount : MethodName := ⟨"java/lang/Long", "bitCount", "(J)I"⟩
abbrev cJL_bitCount : ByteArray := prog_15_method_50_code
def yJA_fillLR : MethodName := ⟨"java/util/Arrays", "fill", "([JIIJ)V"⟩
abbrev cJA_fillLR : ByteArray := prog_18_method_102_code
theorem dJI_bitCount_0 : decode cJI_bitCount 0 = .ok (.iload_n 0, 1) := by decide +kernel
theorem dJI_bitCount_1 : decode cJI_bitCount 1 = .ok (.iload_n 0, 1) := by decide +kernel
theorem dJI_bitCount_2 : decode cJI_bitCount 2 = .ok (.iconst 1, 1) := by decide +kernel
theorem dJI_bitCount_3 : decode cJI_bitCount 3 = .ok (.iushr, 1) := by decide +kernel
theorem dJI_bitCount_4 : decode cJI_bitCount 4 = .ok (.ldc_w 265, 3) := by decide +kernel
theorem dJI_bitCount_7 : decode cJI_bitCount 7 = .ok (.iand, 1) := by decide +kernel
theorem dJI_bitCount_8 : decode cJI_bitCount 8 = .ok (.isub, 1) := by decide +kernel
theorem dJI_bitCount_9 : decode cJI_bitCount 9 = .ok (.istore_n 0, 1) := by decide +kernel
theorem dJI_bitCount_10 : decode cJI_bitCount 10 = .ok (.iload_n 0, 1) := by decide +kernel
theorem dJI_bitCount_11 : decode cJI_bitCount 11 = .ok (.ldc_w 266, 3) := by decide +kernel
theorem dJI_bitCount_14 : decode cJI_bitCount 14 = .ok (.iand, 1) := by decide +kernel
theorem dJI_bitCount_15 : decode cJI_bitCount 15 = .ok (.iload_n 0, 1) := by decide +kernel
theorem dJI_bitCount_16 : decode cJI_bitCount 16 = .ok (.iconst 2, 1) := by decide +kernel
theorem dJI_bitCount_17 : decode cJI_bitCount 17 = .ok (.iushr, 1) := by decide +kernel
theorem dJI_bitCount_18 : decode cJI_bitCount 18 = .ok (.ldc_w 266, 3) := by decide +kernel
theorem dJI_bitCount_21 : decode cJI_bitCount 21 = .ok (.iand, 1) := by decide +kernel
theorem dJI_bitCount_22 : decode cJI_bitCount 22 = .ok (.iadd, 1) := by decide +kernel
theorem dJI_bitCount_23 : decode cJI_bitCount 23 = .ok (.istore_n 0, 1) := by decide +kernel
theorem dJI_bitCount_24 : decode cJI_bitCount 24 = .ok (.iload_n 0, 1) := by decide +kernel
theorem dJI_bitCount_25 : decode cJI_bitCount 25 = .ok (.iload_n 0, 1) := by decide +kernel
theorem dJI_bitCount_26 : decode cJI_bitCount 26 = .ok (.iconst 4, 1) := by decide +kernel
theorem dJI_bitCount_27 : decode cJI_bitCount 27 = .ok (.iushr, 1) := by decide +kernel
theorem dJI_bitCount_28 : decode cJI_bitCount 28 = .ok (.iadd, 1) := by decide +kernel
theorem dJI_bitCount_29 : decode cJI_bitCount 29 = .ok (.ldc_w 267, 3) := by decide +kernel
theorem dJI_bitCount_32 : decode cJI_bitCount 32 = .ok (.iand, 1) := by decide +kernel
theorem dJI_bitCount_33 : decode cJI_bitCount 33 = .ok (.istore_n 0, 1) := by decide +kernel
theorem dJI_bitCount_34 : decode cJI_bitCount 34 = .ok (.iload_n 0, 1) := by decide +kernel
theorem dJI_bitCount_35 : decode cJI_bitCount 35 = .ok (.iload_n 0, 1) := by decide +kernel
theorem dJI_bitCount_36 : decode cJI_bitCount 36 = .ok (.bipush 8, 2) := by decide +kernel
theorem dJI_bitCount_38 : decode cJI_bitCount 38 = .ok (.iushr, 1) := by decide +kernel
theorem dJI_bitCount_39 : decode cJI_bitCount 39 = .ok (.iadd, 1) := by decide +kernel
theorem dJI_bitCount_40 : decode cJI_bitCount 40 = .ok (.istore_n 0, 1) := by decide +kernel
theorem dJI_bitCount_41 : decode cJI_bitCount 41 = .ok (.iload_n 0, 1) := by decide +kernel
theorem dJI_bitCount_42 : decode cJI_bitCount 42 = .ok (.iload_n 0, 1) := by decide +kernel
theorem dJI_bitCount_43 : decode cJI_bitCount 43 = .ok (.bipush 16, 2) := by decide +kernel
theorem dJI_bitCount_45 : decode cJI_bitCount 45 = .ok (.iushr, 1) := by decide +kernel
theorem dJI_bitCount_46 : decode cJI_bitCount 46 = .ok (.iadd, 1) := by decide +kernel
theorem dJI_bitCount_47 : decode cJI_bitCount 47 = .ok (.istore_n 0, 1) := by decide +kernel
theorem dJI_bitCount_48 : decode cJI_bitCount 48 = .ok (.iload_n 0, 1) := by decide +kernel
theorem dJI_bitCount_49 : decode cJI_bitCount 49 = .ok (.bipush 63, 2) := by decide +kernel
theorem dJI_bitCount_51 : decode cJI_bitCount 51 = .ok (.iand, 1) := by decide +kernel
theorem dJI_bitCount_52 : decode cJI_bitCount 52 = .ok (.ireturn, 1) := by decide +kernel
theorem dJL_bitCount_0 : decode cJL_bitCount 0 = .ok (.lload_n 0, 1) := by decide +kernel
theorem dJL_bitCount_1 : decode cJL_bitCount 1 = .ok (.lload_n 0, 1) := by decide +kernel
theorem dJL_bitCount_2 : decode cJL_bitCount 2 = .ok (.iconst 1, 1) := by decide +kernel
theorem dJL_bitCount_3 : decode cJL_bitCount 3 = .ok (.lushr, 1) := by decide +kernel
theorem dJL_bitCount_4 : decode cJL_bitCount 4 = .ok (.ldc2_w 314, 3) := by decide +kernel
theorem dJL_bitCount_7 : decode cJL_bitCount 7 = .ok (.land, 1) := by decide +kernel
theorem dJL_bitCount_8 : decode cJL_bitCount 8 = .ok (.lsub, 1) := by decide +kernel
theorem dJL_bitCount_9 : decode cJL_bitCount 9 = .ok (.lstore_n 0, 1) := by decide +kernel
theorem dJL_bitCount_10 : decode cJL_bitCount 10 = .ok (.lload_n 0, 1) := by decide +kernel
theorem dJL_bitCount_11 : decode cJL_bitCount 11 = .ok (.ldc2_w 316, 3) := by decide +kernel
theorem dJL_bitCount_14 : decode cJL_bitCount 14 = .ok (.land, 1) := by decide +kernel
theorem dJL_bitCount_15 : decode cJL_bitCount 15 = .ok (.lload_n 0, 1) := by decide +kernel
theorem dJL_bitCount_16 : decode cJL_bitCount 16 = .ok (.iconst 2, 1) := by decide +kernel
theorem dJL_bitCount_17 : decode cJL_bitCount 17 = .ok (.lushr, 1) := by decide +kernel
theorem dJL_bitCount_18 : decode cJL_bitCount 18 = .ok (.ldc2_w 316, 3) := by decide +kernel
theorem dJL_bitCount_21 : decode cJL_bitCount 21 = .ok (.land, 1) := by decide +kernel
theorem dJL_bitCount_22 : decode cJL_bitCount 22 = .ok (.ladd, 1) := by decide +kernel
theorem dJL_bitCount_23 : decode cJL_bitCount 23 = .ok (.lstore_n 0, 1) := by decide +kernel
theorem dJL_bitCount_24 : decode cJL_bitCount 24 = .ok (.lload_n 0, 1) := by decide +kernel
theorem dJL_bitCount_25 : decode cJL_bitCount 25 = .ok (.lload_n 0, 1) := by decide +kernel
theorem dJL_bitCount_26 : decode cJL_bitCount 26 = .ok (.iconst 4, 1) := by decide +kernel
theorem dJL_bitCount_27 : decode cJL_bitCount 27 = .ok (.lushr, 1) := by decide +kernel
theorem dJL_bitCount_28 : decode cJL_bitCount 28 = .ok (.ladd, 1) := by decide +kernel
theorem dJL_bitCount_29 : decode cJL_bitCount 29 = .ok (.ldc2_w 318, 3) := by decide +kernel
theorem dJL_bitCount_32 : decode cJL_bitCount 32 = .ok (.land, 1) := by decide +kernel
theorem dJL_bitCount_33 : decode cJL_bitCount 33 = .ok (.lstore_n 0, 1) := by decide +kernel
theorem dJL_bitCount_34 : decode cJL_bitCount 34 = .ok (.lload_n 0, 1) := by decide +kernel
theorem dJL_bitCount_35 : decode cJL_bitCount 35 = .ok (.lload_n 0, 1) := by decide +kernel
theorem dJL_bitCount_36 : decode cJL_bitCount 36 = .ok (.bipush 8, 2) := by decide +kernel
theorem dJL_bitCount_38 : decode cJL_bitCount 38 = .ok (.lushr, 1) := by decide +kernel
theorem dJL_bitCount_39 : decode cJL_bitCount 39 = .ok (.ladd, 1) := by decide +kernel
theorem dJL_bitCount_40 : decode cJL_bitCount 40 = .ok (.lstore_n 0, 1) := by decide +kernel
theorem dJL_bitCount_41 : decode cJL_bitCount 41 = .ok (.lload_n 0, 1) := by decide +kernel
theorem dJL_bitCount_42 : decode cJL_bitCount 42 = .ok (.lload_n 0, 1) := by decide +kernel
theorem dJL_bitCount_43 : decode cJL_bitCount 43 = .ok (.bipush 16, 2) := by decide +kernel
theorem dJL_bitCount_45 : decode cJL_bitCount 45 = .ok (.lushr, 1) := by decide +kernel
theorem dJL_bitCount_46 : decode cJL_bitCount 46 = .ok (.ladd, 1) := by decide +kernel
theorem dJL_bitCount_47 : decode cJL_bitCount 47 = .ok (.lstore_n 0, 1) := by decide +kernel
theorem dJL_bitCount_48 : decode cJL_bitCount 48 = .ok (.lload_n 0, 1) := by decide +kernel
theorem dJL_bitCount_49 : decode cJL_bitCount 49 = .ok (.lload_n 0, 1) := by decide +kernel
theorem dJL_bitCount_50 : decode cJL_bitCount 50 = .ok (.bipush 32, 2) := by decide +kernel
theorem dJL_bitCount_52 : decode cJL_bitCount 52 = .ok (.lushr, 1) := by decide +kernel
theorem dJL_bitCount_53 : decode cJL_bitCount 53 = .ok (.ladd, 1) := by decide +kernel
theorem dJL_bitCount_54 : decode cJL_bitCount 54 = .ok (.lstore_n 0, 1) := by decide +kernel
theorem dJL_bitCount_55 : decode cJL_bitCount 55 = .ok (.lload_n 0, 1) := by decide +kernel
theorem dJL_bitCount_56 : decode cJL_bitCount 56 = .ok (.l2i, 1) := by decide +kernel
theorem dJL_bitCount_57 : decode cJL_bitCount 57 = .ok (.bipush 127, 2) := by decide +kernel
theorem dJL_bitCount_59 : decode cJL_bitCount 59 = .ok (.iand, 1) := by decide +kernel
theorem dJL_bitCount_60 : decode cJL_bitCount 60 = .ok (.ireturn, 1) := by decide +kernel
theorem dJM_max_0 : decode cJM_max 0 = .ok (.iload_n 0, 1) := by decide +kernel
theorem dJM_max_1 : decode cJM_max 1 = .ok (.iload_n 1, 1) := by decide +kernel
theorem dJM_max_2 : decode cJM_max 2 = .ok (.if_icmp .lt 7, 3) := by decide +kernel
theorem dJM_max_5 : decode cJM_max 5 = .ok (.iload_n 0, 1) := by decide +kernel
theorem dJM_max_6 : decode cJM_max 6 = .ok (.goto 4, 3) := by decide +kernel
theorem dJM_max_9 : decode cJM_max 9 = .ok (.iload_n 1, 1) := by decide +kernel
theorem dJM_max_10 : decode cJM_max 10 = .ok (.ireturn, 1) := by decide +kernel
theorem dJM_min_0 : decode cJM_min 0 = .ok (.iload_n 0, 1) := by decide +kernel
theorem dJM_min_1 : decode cJM_min 1 = .ok (.iload_n 1, 1) := by decide +kernel
theorem dJM_min_2 : decode cJM_min 2 = .ok (.if_icmp .gt 7, 3) := by decide +kernel
theorem dJM_min_5 : decode cJM_min 5 = .ok (.iload_n 0, 1) := by decide +kernel
theorem dJM_min_6 : decode cJM_min 6 = .ok (.goto 4, 3) := by decide +kernel
theorem dJM_min_9 : decode cJM_min 9 = .ok (.iload_n 1, 1) := by decide +kernel
theorem dJM_min_10 : decode cJM_min 10 = .ok (.ireturn, 1) := by decide +kernel
theorem dJA_fillI_0 : decode cJA_fillI 0 = .ok (.iconst 0, 1) := by decide +kernel
theorem dJA_fillI_1 : decode cJA_fillI 1 = .ok (.istore_n 2, 1) := by decide +kernel
theorem dJA_fillI_2 : decode cJA_fillI 2 = .ok (.aload_n 0, 1) := by decide +kernel
theorem dJA_fillI_3 : decode cJA_fillI 3 = .ok (.arraylength, 1) := by decide +kernel
theorem dJA_fillI_4 : decode cJA_fillI 4 = .ok (.istore_n 3, 1) := by decide +kernel
theorem dJA_fillI_5 : decode cJA_fillI 5 = .ok (.iload_n 2, 1) := by decide +kernel
theorem dJA_fillI_6 : decode cJA_fillI 6 = .ok (.iload_n 3, 1) := by decide +kernel
theorem dJA_fillI_7 : decode cJA_fillI 7 = .ok (.if_icmp .ge 13, 3) := by decide +kernel
theorem dJA_fillI_10 : decode cJA_fillI 10 = .ok (.aload_n 0, 1) := by decide +kernel
theorem dJA_fillI_11 : decode cJA_fillI 11 = .ok (.iload_n 2, 1) := by decide +kernel
theorem dJA_fillI_12 : decode cJA_fillI 12 = .ok (.iload_n 1, 1) := by decide +kernel
theorem dJA_fillI_13 : decode cJA_fillI 13 = .ok (.iastore, 1) := by decide +kernel
theorem dJA_fillI_14 : decode cJA_fillI 14 = .ok (.iinc 2 1, 3) := by decide +kernel
theorem dJA_fillI_17 : decode cJA_fillI 17 = .ok (.goto (-12), 3) := by decide +kernel
theorem dJA_fillI_20 : decode cJA_fillI 20 = .ok (.return_, 1) := by decide +kernel
theorem dJA_fillIR_0 : decode cJA_fillIR 0 = .ok (.aload_n 0, 1) := by decide +kernel
theorem dJA_fillIR_1 : decode cJA_fillIR 1 = .ok (.arraylength, 1) := by decide +kernel
theorem dJA_fillIR_2 : decode cJA_fillIR 2 = .ok (.iload_n 1, 1) := by decide +kernel
theorem dJA_fillIR_3 : decode cJA_fillIR 3 = .ok (.iload_n 2, 1) := by decide +kernel
theorem dJA_fillIR_4 : decode cJA_fillIR 4 = .ok (.invokestatic 13, 3) := by decide +kernel
theorem dJA_fillIR_7 : decode cJA_fillIR 7 = .ok (.iload_n 1, 1) := by decide +kernel
theorem dJA_fillIR_8 : decode cJA_fillIR 8 = .ok (.istore 4, 2) := by decide +kernel
theorem dJA_fillIR_10 : decode cJA_fillIR 10 = .ok (.iload 4, 2) := by decide +kernel
theorem dJA_fillIR_12 : decode cJA_fillIR 12 = .ok (.iload_n 2, 1) := by decide +kernel
theorem dJA_fillIR_13 : decode cJA_fillIR 13 = .ok (.if_icmp .ge 14, 3) := by decide +kernel
theorem dJA_fillIR_16 : decode cJA_fillIR 16 = .ok (.aload_n 0, 1) := by decide +kernel
theorem dJA_fillIR_17 : decode cJA_fillIR 17 = .ok (.iload 4, 2) := by decide +kernel
theorem dJA_fillIR_19 : decode cJA_fillIR 19 = .ok (.iload_n 3, 1) := by decide +kernel
theorem dJA_fillIR_20 : decode cJA_fillIR 20 = .ok (.iastore, 1) := by decide +kernel
theorem dJA_fillIR_21 : decode cJA_fillIR 21 = .ok (.iinc 4 1, 3) := by decide +kernel
theorem dJA_fillIR_24 : decode cJA_fillIR 24 = .ok (.goto (-14), 3) := by decide +kernel
theorem dJA_fillIR_27 : decode cJA_fillIR 27 = .ok (.return_, 1) := by decide +kernel
theorem dJA_fillLR_0 : decode cJA_fillLR 0 = .ok (.aload_n 0, 1) := by decide +kernel
theorem dJA_fillLR_1 : decode cJA_fillLR 1 = .ok (.arraylength, 1) := by decide +kernel
theorem dJA_fillLR_2 : decode cJA_fillLR 2 = .ok (.iload_n 1, 1) := by decide +kernel
theorem dJA_fillLR_3 : decode cJA_fillLR 3 = .ok (.iload_n 2, 1) := by decide +kernel
theorem dJA_fillLR_4 : decode cJA_fillLR 4 = .ok (.invokestatic 13, 3) := by decide +kernel
theorem dJA_fillLR_7 : decode cJA_fillLR 7 = .ok (.iload_n 1, 1) := by decide +kernel
theorem dJA_fillLR_8 : decode cJA_fillLR 8 = .ok (.istore 5, 2) := by decide +kernel
theorem dJA_fillLR_10 : decode cJA_fillLR 10 = .ok (.iload 5, 2) := by decide +kernel
theorem dJA_fillLR_12 : decode cJA_fillLR 12 = .ok (.iload_n 2, 1) := by decide +kernel
theorem dJA_fillLR_13 : decode cJA_fillLR 13 = .ok (.if_icmp .ge 14, 3) := by decide +kernel
theorem dJA_fillLR_16 : decode cJA_fillLR 16 = .ok (.aload_n 0, 1) := by decide +kernel
theorem dJA_fillLR_17 : decode cJA_fillLR 17 = .ok (.iload 5, 2) := by decide +kernel
theorem dJA_fillLR_19 : decode cJA_fillLR 19 = .ok (.lload_n 3, 1) := by decide +kernel
theorem dJA_fillLR_20 : decode cJA_fillLR 20 = .ok (.lastore, 1) := by decide +kernel
theorem dJA_fillLR_21 : decode cJA_fillLR 21 = .ok (.iinc 5 1, 3) := by decide +kernel
theorem dJA_fillLR_24 : decode cJA_fillLR 24 = .ok (.goto (-14), 3) := by decide +kernel
theorem dJA_fillLR_27 : decode cJA_fillLR 27 = .ok (.return_, 1) := by decide +kernel
theorem dJA_fillL_0 : decode cJA_fillL 0 = .ok (.iconst 0, 1) := by decide +kernel
theorem dJA_fillL_1 : decode cJA_fillL 1 = .ok (.istore_n 3, 1) := by decide +kernel
theorem dJA_fillL_2 : decode cJA_fillL 2 = .ok (.aload_n 0, 1) := by decide +kernel
theorem dJA_fillL_3 : decode cJA_fillL 3 = .ok (.arraylength, 1) := by decide +kernel
theorem dJA_fillL_4 : decode cJA_fillL 4 = .ok (.istore 4, 2) := by decide +kernel
theorem dJA_fillL_6 : decode cJA_fillL 6 = .ok (.iload_n 3, 1) := by decide +kernel
theorem dJA_fillL_7 : decode cJA_fillL 7 = .ok (.iload 4, 2) := by decide +kernel
theorem dJA_fillL_9 : decode cJA_fillL 9 = .ok (.if_icmp .ge 13, 3) := by decide +kernel
theorem dJA_fillL_12 : decode cJA_fillL 12 = .ok (.aload_n 0, 1) := by decide +kernel
theorem dJA_fillL_13 : decode cJA_fillL 13 = .ok (.iload_n 3, 1) := by decide +kernel
theorem dJA_fillL_14 : decode cJA_fillL 14 = .ok (.lload_n 1, 1) := by decide +kernel
theorem dJA_fillL_15 : decode cJA_fillL 15 = .ok (.lastore, 1) := by decide +kernel
theorem dJA_fillL_16 : decode cJA_fillL 16 = .ok (.iinc 3 1, 3) := by decide +kernel
theorem dJA_fillL_19 : decode cJA_fillL 19 = .ok (.goto (-13), 3) := by decide +kernel
theorem dJA_fillL_22 : decode cJA_fillL 22 = .ok (.return_, 1) := by decide +kernel
theorem dJA_rangeCheck_0 : decode cJA_rangeCheck 0 = .ok (.iload_n 1, 1) := by decide +kernel
theorem dJA_rangeCheck_1 : decode cJA_rangeCheck 1 = .ok (.iload_n 2, 1) := by decide +kernel
theorem dJA_rangeCheck_2 : decode cJA_rangeCheck 2 = .ok (.if_icmp .le 44, 3) := by decide +kernel
theorem dJA_rangeCheck_21 : decode cJA_rangeCheck 21 = .ok (.iload_n 1, 1) := by decide +kernel
theorem dJA_rangeCheck_30 : decode cJA_rangeCheck 30 = .ok (.iload_n 2, 1) := by decide +kernel
theorem dJA_rangeCheck_46 : decode cJA_rangeCheck 46 = .ok (.iload_n 1, 1) := by decide +kernel
theorem dJA_rangeCheck_47 : decode cJA_rangeCheck 47 = .ok (.ifCond .ge 12, 3) := by decide +kernel
theorem dJA_rangeCheck_54 : decode cJA_rangeCheck 54 = .ok (.iload_n 1, 1) := by decide +kernel
theorem dJA_rangeCheck_59 : decode cJA_rangeCheck 59 = .ok (.iload_n 2, 1) := by decide +kernel
theorem dJA_rangeCheck_60 : decode cJA_rangeCheck 60 = .ok (.iload_n 0, 1) := by decide +kernel
theorem dJA_rangeCheck_61 : decode cJA_rangeCheck 61 = .ok (.if_icmp .le 12, 3) := by decide +kernel
theorem dJA_rangeCheck_68 : decode cJA_rangeCheck 68 = .ok (.iload_n 2, 1) := by decide +kernel
theorem dJA_rangeCheck_73 : decode cJA_rangeCheck 73 = .ok (.return_, 1) := by decide +kernel
theorem dX0_init_0 : decode cX0_init 0 = .ok (.aload_n 0, 1) := by decide +kernel
theorem dX0_init_1 : decode cX0_init 1 = .ok (.invokespecial 3, 3) := by decide +kernel
theorem dX0_init_4 : decode cX0_init 4 = .ok (.aload_n 0, 1) := by decide +kernel
theorem dX0_init_5 : decode cX0_init 5 = .ok (.bipush 6, 2) := by decide +kernel
theorem dX0_init_7 : decode cX0_init 7 = .ok (.newarray .int, 2) := by decide +kernel
theorem dX0_init_9 : decode cX0_init 9 = .ok (.putfield 9, 3) := by decide +kernel
theorem dX0_init_12 : decode cX0_init 12 = .ok (.aload_n 0, 1) := by decide +kernel
theorem dX0_init_13 : decode cX0_init 13 = .ok (.bipush 6, 2) := by decide +kernel
theorem dX0_init_15 : decode cX0_init 15 = .ok (.newarray .int, 2) := by decide +kernel
theorem dX0_init_17 : decode cX0_init 17 = .ok (.putfield 15, 3) := by decide +kernel
theorem dX0_init_20 : decode cX0_init 20 = .ok (.aload_n 0, 1) := by decide +kernel
theorem dX0_init_21 : decode cX0_init 21 = .ok (.bipush 6, 2) := by decide +kernel
theorem dX0_init_23 : decode cX0_init 23 = .ok (.newarray .int, 2) := by decide +kernel
theorem dX0_init_25 : decode cX0_init 25 = .ok (.putfield 18, 3) := by decide +kernel
theorem dX0_init_28 : decode cX0_init 28 = .ok (.aload_n 0, 1) := by decide +kernel
theorem dX0_init_29 : decode cX0_init 29 = .ok (.bipush 6, 2) := by decide +kernel
theorem dX0_init_31 : decode cX0_init 31 = .ok (.newarray .int, 2) := by decide +kernel
theorem dX0_init_33 : decode cX0_init 33 = .ok (.putfield 21, 3) := by decide +kernel
theorem dX0_init_36 : decode cX0_init 36 = .ok (.aload_n 0, 1) := by decide +kernel
theorem dX0_init_37 : decode cX0_init 37 = .ok (.bipush 6, 2) := by decide +kernel
theorem dX0_init_39 : decode cX0_init 39 = .ok (.newarray .int, 2) := by decide +kernel
theorem dX0_init_41 : decode cX0_init 41 = .ok (.putfield 24, 3) := by decide +kernel
theorem dX0_init_44 : decode cX0_init 44 = .ok (.return_, 1) := by decide +kernel
theorem dX0_load_0 : decode cX0_load 0 = .ok (.iconst 0, 1) := by decide +kernel
theorem dX0_load_1 : decode cX0_load 1 = .ok (.istore_n 2, 1) := by decide +kernel
theorem dX0_load_2 : decode cX0_load 2 = .ok (.iload_n 2, 1) := by decide +kernel
theorem dX0_load_3 : decode cX0_load 3 = .ok (.bipush 6, 2) := by decide +kernel
theorem dX0_load_5 : decode cX0_load 5 = .ok (.if_icmp .ge 19, 3) := by decide +kernel
theorem dX0_load_8 : decode cX0_load 8 = .ok (.aload_n 0, 1) := by decide +kernel
theorem dX0_load_9 : decode cX0_load 9 = .ok (.iload_n 2, 1) := by decide +kernel
theorem dX0_load_10 : decode cX0_load 10 = .ok (.aload_n 1, 1) := by decide +kernel
theorem dX0_load_11 : decode cX0_load 11 = .ok (.iload_n 2, 1) := by decide +kernel
theorem dX0_load_12 : decode cX0_load 12 = .ok (.invokevirtual 27, 3) := by decide +kernel
theorem dX0_load_15 : decode cX0_load 15 = .ok (.invokevirtual 33, 3) := by decide +kernel
theorem dX0_load_18 : decode cX0_load 18 = .ok (.iinc 2 1, 3) := by decide +kernel
theorem dX0_load_21 : decode cX0_load 21 = .ok (.goto (-19), 3) := by decide +kernel
theorem dX0_load_24 : decode cX0_load 24 = .ok (.return_, 1) := by decide +kernel
theorem dX0_store_0 : decode cX0_store 0 = .ok (.iconst 0, 1) := by decide +kernel
theorem dX0_store_1 : decode cX0_store 1 = .ok (.istore_n 2, 1) := by decide +kernel
theorem dX0_store_2 : decode cX0_store 2 = .ok (.iload_n 2, 1) := by decide +kernel
theorem dX0_store_3 : decode cX0_store 3 = .ok (.bipush 6, 2) := by decide +kernel
theorem dX0_store_5 : decode cX0_store 5 = .ok (.if_icmp .ge 20, 3) := by decide +kernel
theorem dX0_store_8 : decode cX0_store 8 = .ok (.aload_n 1, 1) := by decide +kernel
theorem dX0_store_9 : decode cX0_store 9 = .ok (.iload_n 2, 1) := by decide +kernel
theorem dX0_store_10 : decode cX0_store 10 = .ok (.aload_n 0, 1) := by decide +kernel
theorem dX0_store_11 : decode cX0_store 11 = .ok (.getfield 9, 3) := by decide +kernel
theorem dX0_store_14 : decode cX0_store 14 = .ok (.iload_n 2, 1) := by decide +kernel
theorem dX0_store_15 : decode cX0_store 15 = .ok (.iaload, 1) := by decide +kernel
theorem dX0_store_16 : decode cX0_store 16 = .ok (.invokevirtual 37, 3) := by decide +kernel
theorem dX0_store_19 : decode cX0_store 19 = .ok (.iinc 2 1, 3) := by decide +kernel
theorem dX0_store_22 : decode cX0_store 22 = .ok (.goto (-20), 3) := by decide +kernel
theorem dX0_store_25 : decode cX0_store 25 = .ok (.return_, 1) := by decide +kernel
theorem dX0_follow_0 : decode cX0_follow 0 = .ok (.aload_n 0, 1) := by decide +kernel
theorem dX0_follow_1 : decode cX0_follow 1 = .ok (.iconst 0, 1) := by decide +kernel
theorem dX0_follow_2 : decode cX0_follow 2 = .ok (.iconst 0, 1) := by decide +kernel
theorem dX0_follow_3 : decode cX0_follow 3 = .ok (.invokevirtual 33, 3) := by decide +kernel
theorem dX0_follow_6 : decode cX0_follow 6 = .ok (.iconst 1, 1) := by decide +kernel
theorem dX0_follow_7 : decode cX0_follow 7 = .ok (.istore_n 3, 1) := by decide +kernel
theorem dX0_follow_8 : decode cX0_follow 8 = .ok (.iload_n 3, 1) := by decide +kernel
theorem dX0_follow_9 : decode cX0_follow 9 = .ok (.bipush 6, 2) := by decide +kernel
theorem dX0_follow_11 : decode cX0_follow 11 = .ok (.if_icmp .ge 25, 3) := by decide +kernel
theorem dX0_follow_14 : decode cX0_follow 14 = .ok (.aload_n 0, 1) := by decide +kernel
theorem dX0_follow_15 : decode cX0_follow 15 = .ok (.iload_n 3, 1) := by decide +kernel
theorem dX0_follow_16 : decode cX0_follow 16 = .ok (.invokevirtual 40, 3) := by decide +kernel
theorem dX0_follow_19 : decode cX0_follow 19 = .ok (.iload_n 3, 1) := by decide +kernel
theorem dX0_follow_20 : decode cX0_follow 20 = .ok (.iload_n 2, 1) := by decide +kernel
theorem dX0_follow_21 : decode cX0_follow 21 = .ok (.if_icmp .ge 9, 3) := by decide +kernel
theorem dX0_follow_24 : decode cX0_follow 24 = .ok (.aload_n 0, 1) := by decide +kernel
theorem dX0_follow_25 : decode cX0_follow 25 = .ok (.iload_n 3, 1) := by decide +kernel
theorem dX0_follow_26 : decode cX0_follow 26 = .ok (.aload_n 1, 1) := by decide +kernel
theorem dX0_follow_27 : decode cX0_follow 27 = .ok (.invokevirtual 44, 3) := by decide +kernel
theorem dX0_follow_30 : decode cX0_follow 30 = .ok (.iinc 3 1, 3) := by decide +kernel
theorem dX0_follow_33 : decode cX0_follow 33 = .ok (.goto (-25), 3) := by decide +kernel
theorem dX0_follow_36 : decode cX0_follow 36 = .ok (.return_, 1) := by decide +kernel
theorem dX0_walk_0 : decode cX0_walk 0 = .ok (.iload_n 1, 1) := by decide +kernel
theorem dX0_walk_1 : decode cX0_walk 1 = .ok (.istore_n 3, 1) := by decide +kernel
theorem dX0_walk_2 : decode cX0_walk 2 = .ok (.iconst 1, 1) := by decide +kernel
theorem dX0_walk_3 : decode cX0_walk 3 = .ok (.iload_n 1, 1) := by decide +kernel
theorem dX0_walk_4 : decode cX0_walk 4 = .ok (.ishl, 1) := by decide +kernel
theorem dX0_walk_5 : decode cX0_walk 5 = .ok (.istore 4, 2) := by decide +kernel
theorem dX0_walk_7 : decode cX0_walk 7 = .ok (.iload_n 1, 1) := by decide +kernel
theorem dX0_walk_8 : decode cX0_walk 8 = .ok (.istore 5, 2) := by decide +kernel
theorem dX0_walk_10 : decode cX0_walk 10 = .ok (.iconst 1, 1) := by decide +kernel
theorem dX0_walk_11 : decode cX0_walk 11 = .ok (.istore 6, 2) := by decide +kernel
theorem dX0_walk_13 : decode cX0_walk 13 = .ok (.iload 6, 2) := by decide +kernel
theorem dX0_walk_15 : decode cX0_walk 15 = .ok (.bipush 6, 2) := by decide +kernel
theorem dX0_walk_17 : decode cX0_walk 17 = .ok (.if_icmp .ge 50, 3) := by decide +kernel
theorem dX0_walk_20 : decode cX0_walk 20 = .ok (.iload 5, 2) := by decide +kernel
theorem dX0_walk_22 : decode cX0_walk 22 = .ok (.ifCond .le 45, 3) := by decide +kernel
theorem dX0_walk_25 : decode cX0_walk 25 = .ok (.aload_n 2, 1) := by decide +kernel
theorem dX0_walk_26 : decode cX0_walk 26 = .ok (.iload 5, 2) := by decide +kernel
theorem dX0_walk_28 : decode cX0_walk 28 = .ok (.iaload, 1) := by decide +kernel
theorem dX0_walk_29 : decode cX0_walk 29 = .ok (.istore 5, 2) := by decide +kernel
theorem dX0_walk_31 : decode cX0_walk 31 = .ok (.iload 5, 2) := by decide +kernel
theorem dX0_walk_33 : decode cX0_walk 33 = .ok (.ifCond .lt 10, 3) := by decide +kernel
theorem dX0_walk_36 : decode cX0_walk 36 = .ok (.iload 5, 2) := by decide +kernel
theorem dX0_walk_38 : decode cX0_walk 38 = .ok (.bipush 6, 2) := by decide +kernel
theorem dX0_walk_40 : decode cX0_walk 40 = .ok (.if_icmp .lt 4, 3) := by decide +kernel
theorem dX0_walk_43 : decode cX0_walk 43 = .ok (.return_, 1) := by decide +kernel
theorem dX0_walk_44 : decode cX0_walk 44 = .ok (.iload_n 3, 1) := by decide +kernel
theorem dX0_walk_45 : decode cX0_walk 45 = .ok (.bipush 10, 2) := by decide +kernel
theorem dX0_walk_47 : decode cX0_walk 47 = .ok (.imul, 1) := by decide +kernel
theorem dX0_walk_48 : decode cX0_walk 48 = .ok (.iload 5, 2) := by decide +kernel
theorem dX0_walk_50 : decode cX0_walk 50 = .ok (.iadd, 1) := by decide +kernel
theorem dX0_walk_51 : decode cX0_walk 51 = .ok (.istore_n 3, 1) := by decide +kernel
theorem dX0_walk_52 : decode cX0_walk 52 = .ok (.iload 4, 2) := by decide +kernel
theorem dX0_walk_54 : decode cX0_walk 54 = .ok (.iconst 1, 1) := by decide +kernel
theorem dX0_walk_55 : decode cX0_walk 55 = .ok (.iload 5, 2) := by decide +kernel
theorem dX0_walk_57 : decode cX0_walk 57 = .ok (.ishl, 1) := by decide +kernel
theorem dX0_walk_58 : decode cX0_walk 58 = .ok (.ior, 1) := by decide +kernel
theorem dX0_walk_59 : decode cX0_walk 59 = .ok (.istore 4, 2) := by decide +kernel
theorem dX0_walk_61 : decode cX0_walk 61 = .ok (.iinc 6 1, 3) := by decide +kernel
theorem dX0_walk_64 : decode cX0_walk 64 = .ok (.goto (-51), 3) := by decide +kernel
theorem dX0_walk_67 : decode cX0_walk 67 = .ok (.iload 5, 2) := by decide +kernel
theorem dX0_walk_69 : decode cX0_walk 69 = .ok (.ifCond .ne 35, 3) := by decide +kernel
theorem dX0_walk_72 : decode cX0_walk 72 = .ok (.aload_n 0, 1) := by decide +kernel
theorem dX0_walk_73 : decode cX0_walk 73 = .ok (.getfield 9, 3) := by decide +kernel
theorem dX0_walk_76 : decode cX0_walk 76 = .ok (.iload_n 1, 1) := by decide +kernel
theorem dX0_walk_77 : decode cX0_walk 77 = .ok (.iload_n 3, 1) := by decide +kernel
theorem dX0_walk_78 : decode cX0_walk 78 = .ok (.iastore, 1) := by decide +kernel
theorem dX0_walk_79 : decode cX0_walk 79 = .ok (.aload_n 0, 1) := by decide +kernel
theorem dX0_walk_80 : decode cX0_walk 80 = .ok (.getfield 15, 3) := by decide +kernel
theorem dX0_walk_83 : decode cX0_walk 83 = .ok (.iload_n 1, 1) := by decide +kernel
theorem dX0_walk_84 : decode cX0_walk 84 = .ok (.iload 4, 2) := by decide +kernel
theorem dX0_walk_86 : decode cX0_walk 86 = .ok (.iastore, 1) := by decide +kernel
theorem dX0_walk_87 : decode cX0_walk 87 = .ok (.aload_n 0, 1) := by decide +kernel
theorem dX0_walk_88 : decode cX0_walk 88 = .ok (.getfield 18, 3) := by decide +kernel
theorem dX0_walk_91 : decode cX0_walk 91 = .ok (.iload_n 1, 1) := by decide +kernel
theorem dX0_walk_92 : decode cX0_walk 92 = .ok (.aload_n 2, 1) := by decide +kernel
theorem dX0_walk_93 : decode cX0_walk 93 = .ok (.iload_n 1, 1) := by decide +kernel
theorem dX0_walk_94 : decode cX0_walk 94 = .ok (.iaload, 1) := by decide +kernel
theorem dX0_walk_95 : decode cX0_walk 95 = .ok (.iastore, 1) := by decide +kernel
theorem dX0_walk_96 : decode cX0_walk 96 = .ok (.aload_n 0, 1) := by decide +kernel
theorem dX0_walk_97 : decode cX0_walk 97 = .ok (.getfield 21, 3) := by decide +kernel
theorem dX0_walk_100 : decode cX0_walk 100 = .ok (.iload_n 1, 1) := by decide +kernel
theorem dX0_walk_101 : decode cX0_walk 101 = .ok (.iload 6, 2) := by decide +kernel
theorem dX0_walk_103 : decode cX0_walk 103 = .ok (.iastore, 1) := by decide +kernel
theorem dX0_walk_104 : decode cX0_walk 104 = .ok (.return_, 1) := by decide +kernel
theorem dX0_putNone_0 : decode cX0_putNone 0 = .ok (.aload_n 0, 1) := by decide +kernel
theorem dX0_putNone_1 : decode cX0_putNone 1 = .ok (.getfield 9, 3) := by decide +kernel
theorem dX0_putNone_4 : decode cX0_putNone 4 = .ok (.iload_n 1, 1) := by decide +kernel
theorem dX0_putNone_5 : decode cX0_putNone 5 = .ok (.bipush (-4), 2) := by decide +kernel
theorem dX0_putNone_7 : decode cX0_putNone 7 = .ok (.iastore, 1) := by decide +kernel
theorem dX0_putNone_8 : decode cX0_putNone 8 = .ok (.aload_n 0, 1) := by decide +kernel
theorem dX0_putNone_9 : decode cX0_putNone 9 = .ok (.getfield 15, 3) := by decide +kernel
theorem dX0_putNone_12 : decode cX0_putNone 12 = .ok (.iload_n 1, 1) := by decide +kernel
theorem dX0_putNone_13 : decode cX0_putNone 13 = .ok (.iconst 0, 1) := by decide +kernel
theorem dX0_putNone_14 : decode cX0_putNone 14 = .ok (.iastore, 1) := by decide +kernel
theorem dX0_putNone_15 : decode cX0_putNone 15 = .ok (.aload_n 0, 1) := by decide +kernel
theorem dX0_putNone_16 : decode cX0_putNone 16 = .ok (.getfield 18, 3) := by decide +kernel
theorem dX0_putNone_19 : decode cX0_putNone 19 = .ok (.iload_n 1, 1) := by decide +kernel
theorem dX0_putNone_20 : decode cX0_putNone 20 = .ok (.bipush 9, 2) := by decide +kernel
theorem dX0_putNone_22 : decode cX0_putNone 22 = .ok (.iastore, 1) := by decide +kernel
theorem dX0_putNone_23 : decode cX0_putNone 23 = .ok (.aload_n 0, 1) := by decide +kernel
theorem dX0_putNone_24 : decode cX0_putNone 24 = .ok (.getfield 21, 3) := by decide +kernel
theorem dX0_putNone_27 : decode cX0_putNone 27 = .ok (.iload_n 1, 1) := by decide +kernel
theorem dX0_putNone_28 : decode cX0_putNone 28 = .ok (.iconst 0, 1) := by decide +kernel
theorem dX0_putNone_29 : decode cX0_putNone 29 = .ok (.iastore, 1) := by decide +kernel
theorem dX0_putNone_30 : decode cX0_putNone 30 = .ok (.return_, 1) := by decide +kernel
theorem dX0_put_0 : decode cX0_put 0 = .ok (.aload_n 0, 1) := by decide +kernel
theorem dX0_put_1 : decode cX0_put 1 = .ok (.iload_n 1, 1) := by decide +kernel
theorem dX0_put_2 : decode cX0_put 2 = .ok (.invokevirtual 40, 3) := by decide +kernel
theorem dX0_put_5 : decode cX0_put 5 = .ok (.iload_n 2, 1) := by decide +kernel
theorem dX0_put_6 : decode cX0_put 6 = .ok (.ifCond .ge 4, 3) := by decide +kernel
theorem dX0_put_9 : decode cX0_put 9 = .ok (.return_, 1) := by decide +kernel
theorem dX0_put_10 : decode cX0_put 10 = .ok (.iload_n 2, 1) := by decide +kernel
theorem dX0_put_11 : decode cX0_put 11 = .ok (.invokestatic 48, 3) := by decide +kernel
theorem dX0_put_14 : decode cX0_put 14 = .ok (.istore_n 3, 1) := by decide +kernel
theorem dX0_put_15 : decode cX0_put 15 = .ok (.iload_n 2, 1) := by decide +kernel
theorem dX0_put_16 : decode cX0_put 16 = .ok (.istore 4, 2) := by decide +kernel
theorem dX0_put_18 : decode cX0_put 18 = .ok (.iconst 0, 1) := by decide +kernel
theorem dX0_put_19 : decode cX0_put 19 = .ok (.istore 5, 2) := by decide +kernel
theorem dX0_put_21 : decode cX0_put 21 = .ok (.iload 5, 2) := by decide +kernel
theorem dX0_put_23 : decode cX0_put 23 = .ok (.iload_n 3, 1) := by decide +kernel
theorem dX0_put_24 : decode cX0_put 24 = .ok (.if_icmp .ge 51, 3) := by decide +kernel
theorem dX0_put_27 : decode cX0_put 27 = .ok (.aload_n 0, 1) := by decide +kernel
theorem dX0_put_28 : decode cX0_put 28 = .ok (.getfield 15, 3) := by decide +kernel
theorem dX0_put_31 : decode cX0_put 31 = .ok (.iload_n 1, 1) := by decide +kernel
theorem dX0_put_32 : decode cX0_put 32 = .ok (.dup2, 1) := by decide +kernel
theorem dX0_put_33 : decode cX0_put 33 = .ok (.iaload, 1) := by decide +kernel
theorem dX0_put_34 : decode cX0_put 34 = .ok (.iconst 1, 1) := by decide +kernel
theorem dX0_put_35 : decode cX0_put 35 = .ok (.iload 4, 2) := by decide +kernel
theorem dX0_put_37 : decode cX0_put 37 = .ok (.bipush 10, 2) := by decide +kernel
theorem dX0_put_39 : decode cX0_put 39 = .ok (.irem, 1) := by decide +kernel
theorem dX0_put_40 : decode cX0_put 40 = .ok (.ishl, 1) := by decide +kernel
theorem dX0_put_41 : decode cX0_put 41 = .ok (.ior, 1) := by decide +kernel
theorem dX0_put_42 : decode cX0_put 42 = .ok (.iastore, 1) := by decide +kernel
theorem dX0_put_43 : decode cX0_put 43 = .ok (.iload 5, 2) := by decide +kernel
theorem dX0_put_45 : decode cX0_put 45 = .ok (.iload_n 3, 1) := by decide +kernel
theorem dX0_put_46 : decode cX0_put 46 = .ok (.iconst 2, 1) := by decide +kernel
theorem dX0_put_47 : decode cX0_put 47 = .ok (.isub, 1) := by decide +kernel
theorem dX0_put_48 : decode cX0_put 48 = .ok (.if_icmp .ne 14, 3) := by decide +kernel
theorem dX0_put_51 : decode cX0_put 51 = .ok (.aload_n 0, 1) := by decide +kernel
theorem dX0_put_52 : decode cX0_put 52 = .ok (.getfield 18, 3) := by decide +kernel
theorem dX0_put_55 : decode cX0_put 55 = .ok (.iload_n 1, 1) := by decide +kernel
theorem dX0_put_56 : decode cX0_put 56 = .ok (.iload 4, 2) := by decide +kernel
theorem dX0_put_58 : decode cX0_put 58 = .ok (.bipush 10, 2) := by decide +kernel
theorem dX0_put_60 : decode cX0_put 60 = .ok (.irem, 1) := by decide +kernel
theorem dX0_put_61 : decode cX0_put 61 = .ok (.iastore, 1) := by decide +kernel
theorem dX0_put_62 : decode cX0_put 62 = .ok (.iload 4, 2) := by decide +kernel
theorem dX0_put_64 : decode cX0_put 64 = .ok (.bipush 10, 2) := by decide +kernel
theorem dX0_put_66 : decode cX0_put 66 = .ok (.idiv, 1) := by decide +kernel
theorem dX0_put_67 : decode cX0_put 67 = .ok (.istore 4, 2) := by decide +kernel
theorem dX0_put_69 : decode cX0_put 69 = .ok (.iinc 5 1, 3) := by decide +kernel
theorem dX0_put_72 : decode cX0_put 72 = .ok (.goto (-51), 3) := by decide +kernel
theorem dX0_put_75 : decode cX0_put 75 = .ok (.aload_n 0, 1) := by decide +kernel
theorem dX0_put_76 : decode cX0_put 76 = .ok (.getfield 9, 3) := by decide +kernel
theorem dX0_put_79 : decode cX0_put 79 = .ok (.iload_n 1, 1) := by decide +kernel
theorem dX0_put_80 : decode cX0_put 80 = .ok (.iload_n 2, 1) := by decide +kernel
theorem dX0_put_81 : decode cX0_put 81 = .ok (.iastore, 1) := by decide +kernel
theorem dX0_put_82 : decode cX0_put 82 = .ok (.aload_n 0, 1) := by decide +kernel
theorem dX0_put_83 : decode cX0_put 83 = .ok (.getfield 21, 3) := by decide +kernel
theorem dX0_put_86 : decode cX0_put 86 = .ok (.iload_n 1, 1) := by decide +kernel
theorem dX0_put_87 : decode cX0_put 87 = .ok (.iload_n 3, 1) := by decide +kernel
theorem dX0_put_88 : decode cX0_put 88 = .ok (.iastore, 1) := by decide +kernel
theorem dX0_put_89 : decode cX0_put 89 = .ok (.return_, 1) := by decide +kernel
theorem dX0_wayOf_0 : decode cX0_wayOf 0 = .ok (.aload_n 0, 1) := by decide +kernel
theorem dX0_wayOf_1 : decode cX0_wayOf 1 = .ok (.getfield 9, 3) := by decide +kernel
theorem dX0_wayOf_4 : decode cX0_wayOf 4 = .ok (.iload_n 1, 1) := by decide +kernel
theorem dX0_wayOf_5 : decode cX0_wayOf 5 = .ok (.iaload, 1) := by decide +kernel
theorem dX0_wayOf_6 : decode cX0_wayOf 6 = .ok (.ireturn, 1) := by decide +kernel
theorem dX0_secondOf_0 : decode cX0_secondOf 0 = .ok (.aload_n 0, 1) := by decide +kernel
theorem dX0_secondOf_1 : decode cX0_secondOf 1 = .ok (.getfield 18, 3) := by decide +kernel
theorem dX0_secondOf_4 : decode cX0_secondOf 4 = .ok (.iload_n 1, 1) := by decide +kernel
theorem dX0_secondOf_5 : decode cX0_secondOf 5 = .ok (.iaload, 1) := by decide +kernel
theorem dX0_secondOf_6 : decode cX0_secondOf 6 = .ok (.ireturn, 1) := by decide +kernel
theorem dX0_best_0 : decode cX0_best 0 = .ok (.iload_n 2, 1) := by decide +kernel
theorem dX0_best_1 : decode cX0_best 1 = .ok (.ifCond .ne 5, 3) := by decide +kernel
theorem dX0_best_4 : decode cX0_best 4 = .ok (.iconst 0, 1) := by decide +kernel
theorem dX0_best_5 : decode cX0_best 5 = .ok (.ireturn, 1) := by decide +kernel
theorem dX0_best_6 : decode cX0_best 6 = .ok (.ldc 53, 2) := by decide +kernel
theorem dX0_best_8 : decode cX0_best 8 = .ok (.istore_n 3, 1) := by decide +kernel
theorem dX0_best_9 : decode cX0_best 9 = .ok (.iconst 0, 1) := by decide +kernel
theorem dX0_best_10 : decode cX0_best 10 = .ok (.istore 4, 2) := by decide +kernel
theorem dX0_best_12 : decode cX0_best 12 = .ok (.iload 4, 2) := by decide +kernel
theorem dX0_best_14 : decode cX0_best 14 = .ok (.aload_n 1, 1) := by decide +kernel
theorem dX0_best_15 : decode cX0_best 15 = .ok (.invokevirtual 54, 3) := by decide +kernel
theorem dX0_best_18 : decode cX0_best 18 = .ok (.if_icmp .ge 73, 3) := by decide +kernel
theorem dX0_best_21 : decode cX0_best 21 = .ok (.aload_n 0, 1) := by decide +kernel
theorem dX0_best_22 : decode cX0_best 22 = .ok (.getfield 9, 3) := by decide +kernel
theorem dX0_best_25 : decode cX0_best 25 = .ok (.iload 4, 2) := by decide +kernel
theorem dX0_best_27 : decode cX0_best 27 = .ok (.iaload, 1) := by decide +kernel
theorem dX0_best_28 : decode cX0_best 28 = .ok (.bipush (-4), 2) := by decide +kernel
theorem dX0_best_30 : decode cX0_best 30 = .ok (.if_icmp .eq 55, 3) := by decide +kernel
theorem dX0_best_33 : decode cX0_best 33 = .ok (.aload_n 1, 1) := by decide +kernel
theorem dX0_best_34 : decode cX0_best 34 = .ok (.iload_n 2, 1) := by decide +kernel
theorem dX0_best_35 : decode cX0_best 35 = .ok (.iload 4, 2) := by decide +kernel
theorem dX0_best_37 : decode cX0_best 37 = .ok (.aload_n 0, 1) := by decide +kernel
theorem dX0_best_38 : decode cX0_best 38 = .ok (.getfield 15, 3) := by decide +kernel
theorem dX0_best_41 : decode cX0_best 41 = .ok (.iload 4, 2) := by decide +kernel
theorem dX0_best_43 : decode cX0_best 43 = .ok (.iaload, 1) := by decide +kernel
theorem dX0_best_44 : decode cX0_best 44 = .ok (.aload_n 0, 1) := by decide +kernel
theorem dX0_best_45 : decode cX0_best 45 = .ok (.getfield 18, 3) := by decide +kernel
theorem dX0_best_48 : decode cX0_best 48 = .ok (.iload 4, 2) := by decide +kernel
theorem dX0_best_50 : decode cX0_best 50 = .ok (.iaload, 1) := by decide +kernel
theorem dX0_best_51 : decode cX0_best 51 = .ok (.invokevirtual 58, 3) := by decide +kernel
theorem dX0_best_54 : decode cX0_best 54 = .ok (.ifCond .eq 31, 3) := by decide +kernel
theorem dX0_best_57 : decode cX0_best 57 = .ok (.iload_n 3, 1) := by decide +kernel
theorem dX0_best_58 : decode cX0_best 58 = .ok (.aload_n 1, 1) := by decide +kernel
theorem dX0_best_59 : decode cX0_best 59 = .ok (.iload_n 2, 1) := by decide +kernel
theorem dX0_best_60 : decode cX0_best 60 = .ok (.iload 4, 2) := by decide +kernel
theorem dX0_best_62 : decode cX0_best 62 = .ok (.aload_n 0, 1) := by decide +kernel
theorem dX0_best_63 : decode cX0_best 63 = .ok (.getfield 21, 3) := by decide +kernel
theorem dX0_best_66 : decode cX0_best 66 = .ok (.iload 4, 2) := by decide +kernel
theorem dX0_best_68 : decode cX0_best 68 = .ok (.iaload, 1) := by decide +kernel
theorem dX0_best_69 : decode cX0_best 69 = .ok (.iconst 1, 1) := by decide +kernel
theorem dX0_best_70 : decode cX0_best 70 = .ok (.iadd, 1) := by decide +kernel
theorem dX0_best_71 : decode cX0_best 71 = .ok (.aload_n 0, 1) := by decide +kernel
theorem dX0_best_72 : decode cX0_best 72 = .ok (.iload_n 2, 1) := by decide +kernel
theorem dX0_best_73 : decode cX0_best 73 = .ok (.iload 4, 2) := by decide +kernel
theorem dX0_best_75 : decode cX0_best 75 = .ok (.invokevirtual 62, 3) := by decide +kernel
theorem dX0_best_78 : decode cX0_best 78 = .ok (.invokevirtual 66, 3) := by decide +kernel
theorem dX0_best_81 : decode cX0_best 81 = .ok (.invokestatic 70, 3) := by decide +kernel
theorem dX0_best_84 : decode cX0_best 84 = .ok (.istore_n 3, 1) := by decide +kernel
theorem dX0_best_85 : decode cX0_best 85 = .ok (.iinc 4 1, 3) := by decide +kernel
theorem dX0_best_88 : decode cX0_best 88 = .ok (.goto (-76), 3) := by decide +kernel
theorem dX0_best_91 : decode cX0_best 91 = .ok (.iload_n 3, 1) := by decide +kernel
theorem dX0_best_92 : decode cX0_best 92 = .ok (.ldc 53, 2) := by decide +kernel
theorem dX0_best_94 : decode cX0_best 94 = .ok (.if_icmp .ne 8, 3) := by decide +kernel
theorem dX0_best_97 : decode cX0_best 97 = .ok (.bipush (-4), 2) := by decide +kernel
theorem dX0_best_99 : decode cX0_best 99 = .ok (.goto 7, 3) := by decide +kernel
theorem dX0_best_102 : decode cX0_best 102 = .ok (.iload_n 3, 1) := by decide +kernel
theorem dX0_best_103 : decode cX0_best 103 = .ok (.ldc 75, 2) := by decide +kernel
theorem dX0_best_105 : decode cX0_best 105 = .ok (.irem, 1) := by decide +kernel
theorem dX0_best_106 : decode cX0_best 106 = .ok (.ireturn, 1) := by decide +kernel
theorem dX0_together_0 : decode cX0_together 0 = .ok (.iload_n 1, 1) := by decide +kernel
theorem dX0_together_1 : decode cX0_together 1 = .ok (.istore_n 3, 1) := by decide +kernel
theorem dX0_together_2 : decode cX0_together 2 = .ok (.iconst 0, 1) := by decide +kernel
theorem dX0_together_3 : decode cX0_together 3 = .ok (.istore 4, 2) := by decide +kernel
theorem dX0_together_5 : decode cX0_together 5 = .ok (.iload 4, 2) := by decide +kernel
theorem dX0_together_7 : decode cX0_together 7 = .ok (.aload_n 0, 1) := by decide +kernel
theorem dX0_together_8 : decode cX0_together 8 = .ok (.getfield 21, 3) := by decide +kernel
theorem dX0_together_11 : decode cX0_together 11 = .ok (.iload_n 2, 1) := by decide +kernel
theorem dX0_together_12 : decode cX0_together 12 = .ok (.iaload, 1) := by decide +kernel
theorem dX0_together_13 : decode cX0_together 13 = .ok (.if_icmp .ge 14, 3) := by decide +kernel
theorem dX0_together_16 : decode cX0_together 16 = .ok (.iload_n 3, 1) := by decide +kernel
theorem dX0_together_17 : decode cX0_together 17 = .ok (.bipush 10, 2) := by decide +kernel
theorem dX0_together_19 : decode cX0_together 19 = .ok (.imul, 1) := by decide +kernel
theorem dX0_together_20 : decode cX0_together 20 = .ok (.istore_n 3, 1) := by decide +kernel
theorem dX0_together_21 : decode cX0_together 21 = .ok (.iinc 4 1, 3) := by decide +kernel
theorem dX0_together_24 : decode cX0_together 24 = .ok (.goto (-19), 3) := by decide +kernel
theorem dX0_together_27 : decode cX0_together 27 = .ok (.iload_n 3, 1) := by decide +kernel
theorem dX0_together_28 : decode cX0_together 28 = .ok (.aload_n 0, 1) := by decide +kernel
theorem dX0_together_29 : decode cX0_together 29 = .ok (.getfield 9, 3) := by decide +kernel
theorem dX0_together_32 : decode cX0_together 32 = .ok (.iload_n 2, 1) := by decide +kernel
theorem dX0_together_33 : decode cX0_together 33 = .ok (.iaload, 1) := by decide +kernel
theorem dX0_together_34 : decode cX0_together 34 = .ok (.iadd, 1) := by decide +kernel
theorem dX0_together_35 : decode cX0_together 35 = .ok (.ireturn, 1) := by decide +kernel
theorem dX0_discontents_0 : decode cX0_discontents 0 = .ok (.iconst 0, 1) := by decide +kernel
theorem dX0_discontents_1 : decode cX0_discontents 1 = .ok (.istore_n 2, 1) := by decide +kernel
theorem dX0_discontents_2 : decode cX0_discontents 2 = .ok (.iconst 1, 1) := by decide +kernel
theorem dX0_discontents_3 : decode cX0_discontents 3 = .ok (.istore_n 3, 1) := by decide +kernel
theorem dX0_discontents_4 : decode cX0_discontents 4 = .ok (.iload_n 3, 1) := by decide +kernel
theorem dX0_discontents_5 : decode cX0_discontents 5 = .ok (.aload_n 1, 1) := by decide +kernel
theorem dX0_discontents_6 : decode cX0_discontents 6 = .ok (.invokevirtual 54, 3) := by decide +kernel
theorem dX0_discontents_9 : decode cX0_discontents 9 = .ok (.if_icmp .ge 30, 3) := by decide +kernel
theorem dX0_discontents_12 : decode cX0_discontents 12 = .ok (.aload_n 0, 1) := by decide +kernel
theorem dX0_discontents_13 : decode cX0_discontents 13 = .ok (.getfield 9, 3) := by decide +kernel
theorem dX0_discontents_16 : decode cX0_discontents 16 = .ok (.iload_n 3, 1) := by decide +kernel
theorem dX0_discontents_17 : decode cX0_discontents 17 = .ok (.iaload, 1) := by decide +kernel
theorem dX0_discontents_18 : decode cX0_discontents 18 = .ok (.aload_n 0, 1) := by decide +kernel
theorem dX0_discontents_19 : decode cX0_discontents 19 = .ok (.aload_n 1, 1) := by decide +kernel
theorem dX0_discontents_20 : decode cX0_discontents 20 = .ok (.iload_n 3, 1) := by decide +kernel
theorem dX0_discontents_21 : decode cX0_discontents 21 = .ok (.invokevirtual 76, 3) := by decide +kernel
theorem dX0_discontents_24 : decode cX0_discontents 24 = .ok (.if_icmp .eq 9, 3) := by decide +kernel
theorem dX0_discontents_27 : decode cX0_discontents 27 = .ok (.iload_n 2, 1) := by decide +kernel
theorem dX0_discontents_28 : decode cX0_discontents 28 = .ok (.iconst 1, 1) := by decide +kernel
theorem dX0_discontents_29 : decode cX0_discontents 29 = .ok (.iload_n 3, 1) := by decide +kernel
theorem dX0_discontents_30 : decode cX0_discontents 30 = .ok (.ishl, 1) := by decide +kernel
theorem dX0_discontents_31 : decode cX0_discontents 31 = .ok (.ior, 1) := by decide +kernel
theorem dX0_discontents_32 : decode cX0_discontents 32 = .ok (.istore_n 2, 1) := by decide +kernel
theorem dX0_discontents_33 : decode cX0_discontents 33 = .ok (.iinc 3 1, 3) := by decide +kernel
theorem dX0_discontents_36 : decode cX0_discontents 36 = .ok (.goto (-32), 3) := by decide +kernel
theorem dX0_discontents_39 : decode cX0_discontents 39 = .ok (.iload_n 2, 1) := by decide +kernel
theorem dX0_discontents_40 : decode cX0_discontents 40 = .ok (.ireturn, 1) := by decide +kernel
theorem dX0_advance_0 : decode cX0_advance 0 = .ok (.iconst 0, 1) := by decide +kernel
theorem dX0_advance_1 : decode cX0_advance 1 = .ok (.istore_n 2, 1) := by decide +kernel
theorem dX0_advance_2 : decode cX0_advance 2 = .ok (.aload_n 1, 1) := by decide +kernel
theorem dX0_advance_3 : decode cX0_advance 3 = .ok (.invokevirtual 54, 3) := by decide +kernel
theorem dX0_advance_6 : decode cX0_advance 6 = .ok (.istore_n 3, 1) := by decide +kernel
theorem dX0_advance_7 : decode cX0_advance 7 = .ok (.iconst 0, 1) := by decide +kernel
theorem dX0_advance_8 : decode cX0_advance 8 = .ok (.istore 4, 2) := by decide +kernel
theorem dX0_advance_10 : decode cX0_advance 10 = .ok (.iload 4, 2) := by decide +kernel
theorem dX0_advance_12 : decode cX0_advance 12 = .ok (.iload_n 3, 1) := by decide +kernel
theorem dX0_advance_13 : decode cX0_advance 13 = .ok (.if_icmp .ge 23, 3) := by decide +kernel
theorem dX0_advance_16 : decode cX0_advance 16 = .ok (.aload_n 0, 1) := by decide +kernel
theorem dX0_advance_17 : decode cX0_advance 17 = .ok (.getfield 24, 3) := by decide +kernel
theorem dX0_advance_20 : decode cX0_advance 20 = .ok (.iload 4, 2) := by decide +kernel
theorem dX0_advance_22 : decode cX0_advance 22 = .ok (.aload_n 0, 1) := by decide +kernel
theorem dX0_advance_23 : decode cX0_advance 23 = .ok (.aload_n 1, 1) := by decide +kernel
theorem dX0_advance_24 : decode cX0_advance 24 = .ok (.iload 4, 2) := by decide +kernel
theorem dX0_advance_26 : decode cX0_advance 26 = .ok (.invokevirtual 76, 3) := by decide +kernel
theorem dX0_advance_29 : decode cX0_advance 29 = .ok (.iastore, 1) := by decide +kernel
theorem dX0_advance_30 : decode cX0_advance 30 = .ok (.iinc 4 1, 3) := by decide +kernel
theorem dX0_advance_33 : decode cX0_advance 33 = .ok (.goto (-23), 3) := by decide +kernel
theorem dX0_advance_36 : decode cX0_advance 36 = .ok (.iconst 0, 1) := by decide +kernel
theorem dX0_advance_37 : decode cX0_advance 37 = .ok (.istore 4, 2) := by decide +kernel
theorem dX0_advance_39 : decode cX0_advance 39 = .ok (.iload 4, 2) := by decide +kernel
theorem dX0_advance_41 : decode cX0_advance 41 = .ok (.iload_n 3, 1) := by decide +kernel
theorem dX0_advance_42 : decode cX0_advance 42 = .ok (.if_icmp .ge 42, 3) := by decide +kernel
theorem dX0_advance_45 : decode cX0_advance 45 = .ok (.aload_n 0, 1) := by decide +kernel
theorem dX0_advance_46 : decode cX0_advance 46 = .ok (.getfield 24, 3) := by decide +kernel
theorem dX0_advance_49 : decode cX0_advance 49 = .ok (.iload 4, 2) := by decide +kernel
theorem dX0_advance_51 : decode cX0_advance 51 = .ok (.iaload, 1) := by decide +kernel
theorem dX0_advance_52 : decode cX0_advance 52 = .ok (.aload_n 0, 1) := by decide +kernel
theorem dX0_advance_53 : decode cX0_advance 53 = .ok (.getfield 9, 3) := by decide +kernel
theorem dX0_advance_56 : decode cX0_advance 56 = .ok (.iload 4, 2) := by decide +kernel
theorem dX0_advance_58 : decode cX0_advance 58 = .ok (.iaload, 1) := by decide +kernel
theorem dX0_advance_59 : decode cX0_advance 59 = .ok (.if_icmp .eq 19, 3) := by decide +kernel
theorem dX0_advance_62 : decode cX0_advance 62 = .ok (.iinc 2 1, 3) := by decide +kernel
theorem dX0_advance_65 : decode cX0_advance 65 = .ok (.aload_n 0, 1) := by decide +kernel
theorem dX0_advance_66 : decode cX0_advance 66 = .ok (.iload 4, 2) := by decide +kernel
theorem dX0_advance_68 : decode cX0_advance 68 = .ok (.aload_n 0, 1) := by decide +kernel
theorem dX0_advance_69 : decode cX0_advance 69 = .ok (.getfield 24, 3) := by decide +kernel
theorem dX0_advance_72 : decode cX0_advance 72 = .ok (.iload 4, 2) := by decide +kernel
theorem dX0_advance_74 : decode cX0_advance 74 = .ok (.iaload, 1) := by decide +kernel
theorem dX0_advance_75 : decode cX0_advance 75 = .ok (.invokevirtual 33, 3) := by decide +kernel
theorem dX0_advance_78 : decode cX0_advance 78 = .ok (.iinc 4 1, 3) := by decide +kernel
theorem dX0_advance_81 : decode cX0_advance 81 = .ok (.goto (-42), 3) := by decide +kernel
theorem dX0_advance_84 : decode cX0_advance 84 = .ok (.iload_n 2, 1) := by decide +kernel
theorem dX0_advance_85 : decode cX0_advance 85 = .ok (.ireturn, 1) := by decide +kernel
theorem dX1_init_0 : decode cX1_init 0 = .ok (.aload_n 0, 1) := by decide +kernel
theorem dX1_init_1 : decode cX1_init 1 = .ok (.invokespecial 3, 3) := by decide +kernel
theorem dX1_init_4 : decode cX1_init 4 = .ok (.aload_n 0, 1) := by decide +kernel
theorem dX1_init_5 : decode cX1_init 5 = .ok (.bipush (-4), 2) := by decide +kernel
theorem dX1_init_7 : decode cX1_init 7 = .ok (.putfield 9, 3) := by decide +kernel
theorem dX1_init_10 : decode cX1_init 10 = .ok (.aload_n 0, 1) := by decide +kernel
theorem dX1_init_11 : decode cX1_init 11 = .ok (.bipush (-4), 2) := by decide +kernel
theorem dX1_init_13 : decode cX1_init 13 = .ok (.putfield 15, 3) := by decide +kernel
theorem dX1_init_16 : decode cX1_init 16 = .ok (.aload_n 0, 1) := by decide +kernel
theorem dX1_init_17 : decode cX1_init 17 = .ok (.sipush 366, 3) := by decide +kernel
theorem dX1_init_20 : decode cX1_init 20 = .ok (.newarray .int, 2) := by decide +kernel
theorem dX1_init_22 : decode cX1_init 22 = .ok (.putfield 18, 3) := by decide +kernel
theorem dX1_init_25 : decode cX1_init 25 = .ok (.return_, 1) := by decide +kernel
theorem dX1_look_0 : decode cX1_look 0 = .ok (.aload_n 0, 1) := by decide +kernel
theorem dX1_look_1 : decode cX1_look 1 = .ok (.bipush (-4), 2) := by decide +kernel
theorem dX1_look_3 : decode cX1_look 3 = .ok (.putfield 9, 3) := by decide +kernel
theorem dX1_look_6 : decode cX1_look 6 = .ok (.aload_n 0, 1) := by decide +kernel
theorem dX1_look_7 : decode cX1_look 7 = .ok (.bipush (-4), 2) := by decide +kernel
theorem dX1_look_9 : decode cX1_look 9 = .ok (.putfield 15, 3) := by decide +kernel
theorem dX1_look_12 : decode cX1_look 12 = .ok (.aload_n 0, 1) := by decide +kernel
theorem dX1_look_13 : decode cX1_look 13 = .ok (.aload_n 2, 1) := by decide +kernel
theorem dX1_look_14 : decode cX1_look 14 = .ok (.iconst 0, 1) := by decide +kernel
theorem dX1_look_15 : decode cX1_look 15 = .ok (.invokevirtual 22, 3) := by decide +kernel
theorem dX1_look_18 : decode cX1_look 18 = .ok (.iconst 1, 1) := by decide +kernel
theorem dX1_look_19 : decode cX1_look 19 = .ok (.istore_n 3, 1) := by decide +kernel
theorem dX1_look_20 : decode cX1_look 20 = .ok (.iload_n 3, 1) := by decide +kernel
theorem dX1_look_21 : decode cX1_look 21 = .ok (.bipush 60, 2) := by decide +kernel
theorem dX1_look_23 : decode cX1_look 23 = .ok (.if_icmp .gt 48, 3) := by decide +kernel
theorem dX1_look_26 : decode cX1_look 26 = .ok (.aload_n 2, 1) := by decide +kernel
theorem dX1_look_27 : decode cX1_look 27 = .ok (.aload_n 1, 1) := by decide +kernel
theorem dX1_look_28 : decode cX1_look 28 = .ok (.invokevirtual 26, 3) := by decide +kernel
theorem dX1_look_31 : decode cX1_look 31 = .ok (.pop, 1) := by decide +kernel
theorem dX1_look_32 : decode cX1_look 32 = .ok (.aload_n 0, 1) := by decide +kernel
theorem dX1_look_33 : decode cX1_look 33 = .ok (.aload_n 2, 1) := by decide +kernel
theorem dX1_look_34 : decode cX1_look 34 = .ok (.iload_n 3, 1) := by decide +kernel
theorem dX1_look_35 : decode cX1_look 35 = .ok (.invokevirtual 22, 3) := by decide +kernel
theorem dX1_look_38 : decode cX1_look 38 = .ok (.aload_n 0, 1) := by decide +kernel
theorem dX1_look_39 : decode cX1_look 39 = .ok (.iload_n 3, 1) := by decide +kernel
theorem dX1_look_40 : decode cX1_look 40 = .ok (.invokevirtual 32, 3) := by decide +kernel
theorem dX1_look_43 : decode cX1_look 43 = .ok (.istore 4, 2) := by decide +kernel
theorem dX1_look_45 : decode cX1_look 45 = .ok (.iload 4, 2) := by decide +kernel
theorem dX1_look_47 : decode cX1_look 47 = .ok (.ifCond .lt 18, 3) := by decide +kernel
theorem dX1_look_50 : decode cX1_look 50 = .ok (.aload_n 0, 1) := by decide +kernel
theorem dX1_look_51 : decode cX1_look 51 = .ok (.iload 4, 2) := by decide +kernel
theorem dX1_look_53 : decode cX1_look 53 = .ok (.putfield 9, 3) := by decide +kernel
theorem dX1_look_56 : decode cX1_look 56 = .ok (.aload_n 0, 1) := by decide +kernel
theorem dX1_look_57 : decode cX1_look 57 = .ok (.iload_n 3, 1) := by decide +kernel
theorem dX1_look_58 : decode cX1_look 58 = .ok (.iload 4, 2) := by decide +kernel
theorem dX1_look_60 : decode cX1_look 60 = .ok (.isub, 1) := by decide +kernel
theorem dX1_look_61 : decode cX1_look 61 = .ok (.putfield 15, 3) := by decide +kernel
theorem dX1_look_64 : decode cX1_look 64 = .ok (.return_, 1) := by decide +kernel
theorem dX1_look_65 : decode cX1_look 65 = .ok (.iinc 3 1, 3) := by decide +kernel
theorem dX1_look_68 : decode cX1_look 68 = .ok (.goto (-48), 3) := by decide +kernel
theorem dX1_look_71 : decode cX1_look 71 = .ok (.return_, 1) := by decide +kernel
theorem dX1_note_0 : decode cX1_note 0 = .ok (.iconst 0, 1) := by decide +kernel
theorem dX1_note_1 : decode cX1_note 1 = .ok (.istore_n 3, 1) := by decide +kernel
theorem dX1_note_2 : decode cX1_note 2 = .ok (.iload_n 3, 1) := by decide +kernel
theorem dX1_note_3 : decode cX1_note 3 = .ok (.bipush 6, 2) := by decide +kernel
theorem dX1_note_5 : decode cX1_note 5 = .ok (.if_icmp .ge 25, 3) := by decide +kernel
theorem dX1_note_8 : decode cX1_note 8 = .ok (.aload_n 0, 1) := by decide +kernel
theorem dX1_note_9 : decode cX1_note 9 = .ok (.getfield 18, 3) := by decide +kernel
theorem dX1_note_12 : decode cX1_note 12 = .ok (.iload_n 2, 1) := by decide +kernel
theorem dX1_note_13 : decode cX1_note 13 = .ok (.bipush 6, 2) := by decide +kernel
theorem dX1_note_15 : decode cX1_note 15 = .ok (.imul, 1) := by decide +kernel
theorem dX1_note_16 : decode cX1_note 16 = .ok (.iload_n 3, 1) := by decide +kernel
theorem dX1_note_17 : decode cX1_note 17 = .ok (.iadd, 1) := by decide +kernel
theorem dX1_note_18 : decode cX1_note 18 = .ok (.aload_n 1, 1) := by decide +kernel
theorem dX1_note_19 : decode cX1_note 19 = .ok (.iload_n 3, 1) := by decide +kernel
theorem dX1_note_20 : decode cX1_note 20 = .ok (.invokevirtual 36, 3) := by decide +kernel
theorem dX1_note_23 : decode cX1_note 23 = .ok (.iastore, 1) := by decide +kernel
theorem dX1_note_24 : decode cX1_note 24 = .ok (.iinc 3 1, 3) := by decide +kernel
theorem dX1_note_27 : decode cX1_note 27 = .ok (.goto (-25), 3) := by decide +kernel
theorem dX1_note_30 : decode cX1_note 30 = .ok (.return_, 1) := by decide +kernel
theorem dX1_earlier_0 : decode cX1_earlier 0 = .ok (.iconst 0, 1) := by decide +kernel
theorem dX1_earlier_1 : decode cX1_earlier 1 = .ok (.istore_n 2, 1) := by decide +kernel
theorem dX1_earlier_2 : decode cX1_earlier 2 = .ok (.iload_n 2, 1) := by decide +kernel
theorem dX1_earlier_3 : decode cX1_earlier 3 = .ok (.iload_n 1, 1) := by decide +kernel
theorem dX1_earlier_4 : decode cX1_earlier 4 = .ok (.if_icmp .ge 20, 3) := by decide +kernel
theorem dX1_earlier_7 : decode cX1_earlier 7 = .ok (.aload_n 0, 1) := by decide +kernel
theorem dX1_earlier_8 : decode cX1_earlier 8 = .ok (.iload_n 2, 1) := by decide +kernel
theorem dX1_earlier_9 : decode cX1_earlier 9 = .ok (.iload_n 1, 1) := by decide +kernel
theorem dX1_earlier_10 : decode cX1_earlier 10 = .ok (.invokevirtual 39, 3) := by decide +kernel
theorem dX1_earlier_13 : decode cX1_earlier 13 = .ok (.ifCond .eq 5, 3) := by decide +kernel
theorem dX1_earlier_16 : decode cX1_earlier 16 = .ok (.iload_n 2, 1) := by decide +kernel
theorem dX1_earlier_17 : decode cX1_earlier 17 = .ok (.ireturn, 1) := by decide +kernel
theorem dX1_earlier_18 : decode cX1_earlier 18 = .ok (.iinc 2 1, 3) := by decide +kernel
theorem dX1_earlier_21 : decode cX1_earlier 21 = .ok (.goto (-19), 3) := by decide +kernel
theorem dX1_earlier_24 : decode cX1_earlier 24 = .ok (.iconst (-1), 1) := by decide +kernel
theorem dX1_earlier_25 : decode cX1_earlier 25 = .ok (.ireturn, 1) := by decide +kernel
theorem dX1_areAlike_0 : decode cX1_areAlike 0 = .ok (.iconst 0, 1) := by decide +kernel
theorem dX1_areAlike_1 : decode cX1_areAlike 1 = .ok (.istore_n 3, 1) := by decide +kernel
theorem dX1_areAlike_2 : decode cX1_areAlike 2 = .ok (.iload_n 3, 1) := by decide +kernel
theorem dX1_areAlike_3 : decode cX1_areAlike 3 = .ok (.bipush 6, 2) := by decide +kernel
theorem dX1_areAlike_5 : decode cX1_areAlike 5 = .ok (.if_icmp .ge 36, 3) := by decide +kernel
theorem dX1_areAlike_8 : decode cX1_areAlike 8 = .ok (.aload_n 0, 1) := by decide +kernel
theorem dX1_areAlike_9 : decode cX1_areAlike 9 = .ok (.getfield 18, 3) := by decide +kernel
theorem dX1_areAlike_12 : decode cX1_areAlike 12 = .ok (.iload_n 1, 1) := by decide +kernel
theorem dX1_areAlike_13 : decode cX1_areAlike 13 = .ok (.bipush 6, 2) := by decide +kernel
theorem dX1_areAlike_15 : decode cX1_areAlike 15 = .ok (.imul, 1) := by decide +kernel
theorem dX1_areAlike_16 : decode cX1_areAlike 16 = .ok (.iload_n 3, 1) := by decide +kernel
theorem dX1_areAlike_17 : decode cX1_areAlike 17 = .ok (.iadd, 1) := by decide +kernel
theorem dX1_areAlike_18 : decode cX1_areAlike 18 = .ok (.iaload, 1) := by decide +kernel
theorem dX1_areAlike_19 : decode cX1_areAlike 19 = .ok (.aload_n 0, 1) := by decide +kernel
theorem dX1_areAlike_20 : decode cX1_areAlike 20 = .ok (.getfield 18, 3) := by decide +kernel
theorem dX1_areAlike_23 : decode cX1_areAlike 23 = .ok (.iload_n 2, 1) := by decide +kernel
theorem dX1_areAlike_24 : decode cX1_areAlike 24 = .ok (.bipush 6, 2) := by decide +kernel
theorem dX1_areAlike_26 : decode cX1_areAlike 26 = .ok (.imul, 1) := by decide +kernel
theorem dX1_areAlike_27 : decode cX1_areAlike 27 = .ok (.iload_n 3, 1) := by decide +kernel
theorem dX1_areAlike_28 : decode cX1_areAlike 28 = .ok (.iadd, 1) := by decide +kernel
theorem dX1_areAlike_29 : decode cX1_areAlike 29 = .ok (.iaload, 1) := by decide +kernel
theorem dX1_areAlike_30 : decode cX1_areAlike 30 = .ok (.if_icmp .eq 5, 3) := by decide +kernel
theorem dX1_areAlike_33 : decode cX1_areAlike 33 = .ok (.iconst 0, 1) := by decide +kernel
theorem dX1_areAlike_34 : decode cX1_areAlike 34 = .ok (.ireturn, 1) := by decide +kernel
theorem dX1_areAlike_35 : decode cX1_areAlike 35 = .ok (.iinc 3 1, 3) := by decide +kernel
theorem dX1_areAlike_38 : decode cX1_areAlike 38 = .ok (.goto (-36), 3) := by decide +kernel
theorem dX1_areAlike_41 : decode cX1_areAlike 41 = .ok (.iconst 1, 1) := by decide +kernel
theorem dX1_areAlike_42 : decode cX1_areAlike 42 = .ok (.ireturn, 1) := by decide +kernel
theorem dX2_power_0 : decode cX2_power 0 = .ok (.iload_n 0, 1) := by decide +kernel
theorem dX2_power_1 : decode cX2_power 1 = .ok (.ifCond .lt 19, 3) := by decide +kernel
theorem dX2_power_4 : decode cX2_power 4 = .ok (.iload_n 0, 1) := by decide +kernel
theorem dX2_power_5 : decode cX2_power 5 = .ok (.getstatic 7, 3) := by decide +kernel
theorem dX2_power_8 : decode cX2_power 8 = .ok (.arraylength, 1) := by decide +kernel
theorem dX2_power_9 : decode cX2_power 9 = .ok (.if_icmp .ge 11, 3) := by decide +kernel
theorem dX2_power_12 : decode cX2_power 12 = .ok (.getstatic 7, 3) := by decide +kernel
theorem dX2_power_15 : decode cX2_power 15 = .ok (.iload_n 0, 1) := by decide +kernel
theorem dX2_power_16 : decode cX2_power 16 = .ok (.laload, 1) := by decide +kernel
theorem dX2_power_17 : decode cX2_power 17 = .ok (.goto 4, 3) := by decide +kernel
theorem dX2_power_20 : decode cX2_power 20 = .ok (.lconst 0, 1) := by decide +kernel
theorem dX2_power_21 : decode cX2_power 21 = .ok (.lreturn, 1) := by decide +kernel
theorem dX2_lasting_0 : decode cX2_lasting 0 = .ok (.aload_n 0, 1) := by decide +kernel
theorem dX2_lasting_1 : decode cX2_lasting 1 = .ok (.iload_n 1, 1) := by decide +kernel
theorem dX2_lasting_2 : decode cX2_lasting 2 = .ok (.iload_n 3, 1) := by decide +kernel
theorem dX2_lasting_3 : decode cX2_lasting 3 = .ok (.iload 4, 2) := by decide +kernel
theorem dX2_lasting_5 : decode cX2_lasting 5 = .ok (.invokevirtual 13, 3) := by decide +kernel
theorem dX2_lasting_8 : decode cX2_lasting 8 = .ok (.istore 6, 2) := by decide +kernel
theorem dX2_lasting_10 : decode cX2_lasting 10 = .ok (.iload 6, 2) := by decide +kernel
theorem dX2_lasting_12 : decode cX2_lasting 12 = .ok (.ifCond .ne 9, 3) := by decide +kernel
theorem dX2_lasting_15 : decode cX2_lasting 15 = .ok (.iload 5, 2) := by decide +kernel
theorem dX2_lasting_17 : decode cX2_lasting 17 = .ok (.invokestatic 19, 3) := by decide +kernel
theorem dX2_lasting_20 : decode cX2_lasting 20 = .ok (.lreturn, 1) := by decide +kernel
theorem dX2_lasting_21 : decode cX2_lasting 21 = .ok (.iload 6, 2) := by decide +kernel
theorem dX2_lasting_23 : decode cX2_lasting 23 = .ok (.ifCond .lt 8, 3) := by decide +kernel
theorem dX2_lasting_26 : decode cX2_lasting 26 = .ok (.iload 5, 2) := by decide +kernel
theorem dX2_lasting_28 : decode cX2_lasting 28 = .ok (.ifCond .gt 5, 3) := by decide +kernel
theorem dX2_lasting_31 : decode cX2_lasting 31 = .ok (.lconst 0, 1) := by decide +kernel
theorem dX2_lasting_32 : decode cX2_lasting 32 = .ok (.lreturn, 1) := by decide +kernel
theorem dX2_lasting_33 : decode cX2_lasting 33 = .ok (.iload_n 2, 1) := by decide +kernel
theorem dX2_lasting_34 : decode cX2_lasting 34 = .ok (.bipush 10, 2) := by decide +kernel
theorem dX2_lasting_36 : decode cX2_lasting 36 = .ok (.if_icmp .ne 7, 3) := by decide +kernel
theorem dX2_lasting_39 : decode cX2_lasting 39 = .ok (.lconst 0, 1) := by decide +kernel
theorem dX2_lasting_40 : decode cX2_lasting 40 = .ok (.goto 25, 3) := by decide +kernel
theorem dX2_lasting_43 : decode cX2_lasting 43 = .ok (.bipush 10, 2) := by decide +kernel
theorem dX2_lasting_45 : decode cX2_lasting 45 = .ok (.iload_n 2, 1) := by decide +kernel
theorem dX2_lasting_46 : decode cX2_lasting 46 = .ok (.isub, 1) := by decide +kernel
theorem dX2_lasting_47 : decode cX2_lasting 47 = .ok (.i2l, 1) := by decide +kernel
theorem dX2_lasting_48 : decode cX2_lasting 48 = .ok (.aload_n 0, 1) := by decide +kernel
theorem dX2_lasting_49 : decode cX2_lasting 49 = .ok (.iload_n 1, 1) := by decide +kernel
theorem dX2_lasting_50 : decode cX2_lasting 50 = .ok (.iload_n 2, 1) := by decide +kernel
theorem dX2_lasting_51 : decode cX2_lasting 51 = .ok (.iload_n 3, 1) := by decide +kernel
theorem dX2_lasting_52 : decode cX2_lasting 52 = .ok (.iload 6, 2) := by decide +kernel
theorem dX2_lasting_54 : decode cX2_lasting 54 = .ok (.ior, 1) := by decide +kernel
theorem dX2_lasting_55 : decode cX2_lasting 55 = .ok (.iload 4, 2) := by decide +kernel
theorem dX2_lasting_57 : decode cX2_lasting 57 = .ok (.iload 5, 2) := by decide +kernel
theorem dX2_lasting_59 : decode cX2_lasting 59 = .ok (.iconst 1, 1) := by decide +kernel
theorem dX2_lasting_60 : decode cX2_lasting 60 = .ok (.isub, 1) := by decide +kernel
theorem dX2_lasting_61 : decode cX2_lasting 61 = .ok (.invokestatic 23, 3) := by decide +kernel
theorem dX2_lasting_64 : decode cX2_lasting 64 = .ok (.lmul, 1) := by decide +kernel
theorem dX2_lasting_65 : decode cX2_lasting 65 = .ok (.lstore 7, 2) := by decide +kernel
theorem dX2_lasting_67 : decode cX2_lasting 67 = .ok (.iload_n 2, 1) := by decide +kernel
theorem dX2_lasting_68 : decode cX2_lasting 68 = .ok (.ifCond .ne 7, 3) := by decide +kernel
theorem dX2_lasting_71 : decode cX2_lasting 71 = .ok (.lconst 0, 1) := by decide +kernel
theorem dX2_lasting_72 : decode cX2_lasting 72 = .ok (.goto 22, 3) := by decide +kernel
theorem dX2_lasting_75 : decode cX2_lasting 75 = .ok (.iload_n 2, 1) := by decide +kernel
theorem dX2_lasting_76 : decode cX2_lasting 76 = .ok (.i2l, 1) := by decide +kernel
theorem dX2_lasting_77 : decode cX2_lasting 77 = .ok (.aload_n 0, 1) := by decide +kernel
theorem dX2_lasting_78 : decode cX2_lasting 78 = .ok (.iload_n 1, 1) := by decide +kernel
theorem dX2_lasting_79 : decode cX2_lasting 79 = .ok (.iload_n 2, 1) := by decide +kernel
theorem dX2_lasting_80 : decode cX2_lasting 80 = .ok (.iload_n 3, 1) := by decide +kernel
theorem dX2_lasting_81 : decode cX2_lasting 81 = .ok (.iload 4, 2) := by decide +kernel
theorem dX2_lasting_83 : decode cX2_lasting 83 = .ok (.iload 6, 2) := by decide +kernel
theorem dX2_lasting_85 : decode cX2_lasting 85 = .ok (.ior, 1) := by decide +kernel
theorem dX2_lasting_86 : decode cX2_lasting 86 = .ok (.iload 5, 2) := by decide +kernel
theorem dX2_lasting_88 : decode cX2_lasting 88 = .ok (.iconst 1, 1) := by decide +kernel
theorem dX2_lasting_89 : decode cX2_lasting 89 = .ok (.isub, 1) := by decide +kernel
theorem dX2_lasting_90 : decode cX2_lasting 90 = .ok (.invokestatic 23, 3) := by decide +kernel
theorem dX2_lasting_93 : decode cX2_lasting 93 = .ok (.lmul, 1) := by decide +kernel
theorem dX2_lasting_94 : decode cX2_lasting 94 = .ok (.lstore 9, 2) := by decide +kernel
theorem dX2_lasting_96 : decode cX2_lasting 96 = .ok (.lload 7, 2) := by decide +kernel
theorem dX2_lasting_98 : decode cX2_lasting 98 = .ok (.lload 9, 2) := by decide +kernel
theorem dX2_lasting_100 : decode cX2_lasting 100 = .ok (.ladd, 1) := by decide +kernel
theorem dX2_lasting_101 : decode cX2_lasting 101 = .ok (.lreturn, 1) := by decide +kernel
theorem dX2_commonDivisor_0 : decode cX2_commonDivisor 0 = .ok (.lload_n 0, 1) := by decide +kernel
theorem dX2_commonDivisor_1 : decode cX2_commonDivisor 1 = .ok (.lstore 4, 2) := by decide +kernel
theorem dX2_commonDivisor_3 : decode cX2_commonDivisor 3 = .ok (.lload_n 2, 1) := by decide +kernel
theorem dX2_commonDivisor_4 : decode cX2_commonDivisor 4 = .ok (.lstore 6, 2) := by decide +kernel
theorem dX2_commonDivisor_6 : decode cX2_commonDivisor 6 = .ok (.iconst 0, 1) := by decide +kernel
theorem dX2_commonDivisor_7 : decode cX2_commonDivisor 7 = .ok (.istore 8, 2) := by decide +kernel
theorem dX2_commonDivisor_9 : decode cX2_commonDivisor 9 = .ok (.iload 8, 2) := by decide +kernel
theorem dX2_commonDivisor_11 : decode cX2_commonDivisor 11 = .ok (.sipush 200, 3) := by decide +kernel
theorem dX2_commonDivisor_14 : decode cX2_commonDivisor 14 = .ok (.if_icmp .ge 31, 3) := by decide +kernel
theorem dX2_commonDivisor_17 : decode cX2_commonDivisor 17 = .ok (.lload 6, 2) := by decide +kernel
theorem dX2_commonDivisor_19 : decode cX2_commonDivisor 19 = .ok (.lconst 0, 1) := by decide +kernel
theorem dX2_commonDivisor_20 : decode cX2_commonDivisor 20 = .ok (.lcmp, 1) := by decide +kernel
theorem dX2_commonDivisor_21 : decode cX2_commonDivisor 21 = .ok (.ifCond .le 24, 3) := by decide +kernel
theorem dX2_commonDivisor_24 : decode cX2_commonDivisor 24 = .ok (.lload 4, 2) := by decide +kernel
theorem dX2_commonDivisor_26 : decode cX2_commonDivisor 26 = .ok (.lload 6, 2) := by decide +kernel
theorem dX2_commonDivisor_28 : decode cX2_commonDivisor 28 = .ok (.lrem, 1) := by decide +kernel
theorem dX2_commonDivisor_29 : decode cX2_commonDivisor 29 = .ok (.lstore 9, 2) := by decide +kernel
theorem dX2_commonDivisor_31 : decode cX2_commonDivisor 31 = .ok (.lload 6, 2) := by decide +kernel
theorem dX2_commonDivisor_33 : decode cX2_commonDivisor 33 = .ok (.lstore 4, 2) := by decide +kernel
theorem dX2_commonDivisor_35 : decode cX2_commonDivisor 35 = .ok (.lload 9, 2) := by decide +kernel
theorem dX2_commonDivisor_37 : decode cX2_commonDivisor 37 = .ok (.lstore 6, 2) := by decide +kernel
theorem dX2_commonDivisor_39 : decode cX2_commonDivisor 39 = .ok (.iinc 8 1, 3) := by decide +kernel
theorem dX2_commonDivisor_42 : decode cX2_commonDivisor 42 = .ok (.goto (-33), 3) := by decide +kernel
theorem dX2_commonDivisor_45 : decode cX2_commonDivisor 45 = .ok (.lload 4, 2) := by decide +kernel
theorem dX2_commonDivisor_47 : decode cX2_commonDivisor 47 = .ok (.lreturn, 1) := by decide +kernel
theorem dX3_init_0 : decode cX3_init 0 = .ok (.aload_n 0, 1) := by decide +kernel
theorem dX3_init_1 : decode cX3_init 1 = .ok (.invokespecial 1, 3) := by decide +kernel
theorem dX3_init_4 : decode cX3_init 4 = .ok (.aload_n 0, 1) := by decide +kernel
theorem dX3_init_5 : decode cX3_init 5 = .ok (.sipush 768, 3) := by decide +kernel
theorem dX3_init_8 : decode cX3_init 8 = .ok (.newarray .int, 2) := by decide +kernel
theorem dX3_init_10 : decode cX3_init 10 = .ok (.putfield 11, 3) := by decide +kernel
theorem dX3_init_13 : decode cX3_init 13 = .ok (.aload_n 0, 1) := by decide +kernel
theorem dX3_init_14 : decode cX3_init 14 = .ok (.iconst 0, 1) := by decide +kernel
theorem dX3_init_15 : decode cX3_init 15 = .ok (.putfield 15, 3) := by decide +kernel
theorem dX3_init_18 : decode cX3_init 18 = .ok (.aload_n 0, 1) := by decide +kernel
theorem dX3_init_19 : decode cX3_init 19 = .ok (.iconst 0, 1) := by decide +kernel
theorem dX3_init_20 : decode cX3_init 20 = .ok (.putfield 19, 3) := by decide +kernel
theorem dX3_init_23 : decode cX3_init 23 = .ok (.return_, 1) := by decide +kernel
theorem dX3_known_0 : decode cX3_known 0 = .ok (.aload_n 0, 1) := by decide +kernel
theorem dX3_known_1 : decode cX3_known 1 = .ok (.getfield 15, 3) := by decide +kernel
theorem dX3_known_4 : decode cX3_known 4 = .ok (.ireturn, 1) := by decide +kernel
theorem dX3_keep_0 : decode cX3_keep 0 = .ok (.aload_n 1, 1) := by decide +kernel
theorem dX3_keep_1 : decode cX3_keep 1 = .ok (.getfield 22, 3) := by decide +kernel
theorem dX3_keep_4 : decode cX3_keep 4 = .ok (.iconst 0, 1) := by decide +kernel
theorem dX3_keep_5 : decode cX3_keep 5 = .ok (.aload_n 0, 1) := by decide +kernel
theorem dX3_keep_6 : decode cX3_keep 6 = .ok (.getfield 11, 3) := by decide +kernel
theorem dX3_keep_9 : decode cX3_keep 9 = .ok (.aload_n 0, 1) := by decide +kernel
theorem dX3_keep_10 : decode cX3_keep 10 = .ok (.getfield 19, 3) := by decide +kernel
theorem dX3_keep_13 : decode cX3_keep 13 = .ok (.sipush 128, 3) := by decide +kernel
theorem dX3_keep_16 : decode cX3_keep 16 = .ok (.imul, 1) := by decide +kernel
theorem dX3_keep_17 : decode cX3_keep 17 = .ok (.sipush 128, 3) := by decide +kernel
theorem dX3_keep_20 : decode cX3_keep 20 = .ok (.invokestatic 25, 3) := by decide +kernel
theorem dX3_keep_23 : decode cX3_keep 23 = .ok (.aload_n 0, 1) := by decide +kernel
theorem dX3_keep_24 : decode cX3_keep 24 = .ok (.aload_n 0, 1) := by decide +kernel
theorem dX3_keep_25 : decode cX3_keep 25 = .ok (.getfield 19, 3) := by decide +kernel
theorem dX3_keep_28 : decode cX3_keep 28 = .ok (.iconst 1, 1) := by decide +kernel
theorem dX3_keep_29 : decode cX3_keep 29 = .ok (.iadd, 1) := by decide +kernel
theorem dX3_keep_30 : decode cX3_keep 30 = .ok (.bipush 6, 2) := by decide +kernel
theorem dX3_keep_32 : decode cX3_keep 32 = .ok (.irem, 1) := by decide +kernel
theorem dX3_keep_33 : decode cX3_keep 33 = .ok (.putfield 19, 3) := by decide +kernel
theorem dX3_keep_36 : decode cX3_keep 36 = .ok (.aload_n 0, 1) := by decide +kernel
theorem dX3_keep_37 : decode cX3_keep 37 = .ok (.aload_n 0, 1) := by decide +kernel
theorem dX3_keep_38 : decode cX3_keep 38 = .ok (.getfield 15, 3) := by decide +kernel
theorem dX3_keep_41 : decode cX3_keep 41 = .ok (.iconst 1, 1) := by decide +kernel
theorem dX3_keep_42 : decode cX3_keep 42 = .ok (.iadd, 1) := by decide +kernel
theorem dX3_keep_43 : decode cX3_keep 43 = .ok (.bipush 6, 2) := by decide +kernel
theorem dX3_keep_45 : decode cX3_keep 45 = .ok (.invokestatic 31, 3) := by decide +kernel
theorem dX3_keep_48 : decode cX3_keep 48 = .ok (.putfield 15, 3) := by decide +kernel
theorem dX3_keep_51 : decode cX3_keep 51 = .ok (.return_, 1) := by decide +kernel
theorem dX3_bringBack_0 : decode cX3_bringBack 0 = .ok (.aload_n 0, 1) := by decide +kernel
theorem dX3_bringBack_1 : decode cX3_bringBack 1 = .ok (.getfield 15, 3) := by decide +kernel
theorem dX3_bringBack_4 : decode cX3_bringBack 4 = .ok (.ifCond .ne 4, 3) := by decide +kernel
theorem dX3_bringBack_7 : decode cX3_bringBack 7 = .ok (.return_, 1) := by decide +kernel
theorem dX3_bringBack_8 : decode cX3_bringBack 8 = .ok (.aload_n 0, 1) := by decide +kernel
theorem dX3_bringBack_9 : decode cX3_bringBack 9 = .ok (.dup, 1) := by decide +kernel
theorem dX3_bringBack_10 : decode cX3_bringBack 10 = .ok (.getfield 15, 3) := by decide +kernel
theorem dX3_bringBack_13 : decode cX3_bringBack 13 = .ok (.iconst 1, 1) := by decide +kernel
theorem dX3_bringBack_14 : decode cX3_bringBack 14 = .ok (.isub, 1) := by decide +kernel
theorem dX3_bringBack_15 : decode cX3_bringBack 15 = .ok (.putfield 15, 3) := by decide +kernel
theorem dX3_bringBack_18 : decode cX3_bringBack 18 = .ok (.aload_n 0, 1) := by decide +kernel
theorem dX3_bringBack_19 : decode cX3_bringBack 19 = .ok (.aload_n 0, 1) := by decide +kernel
theorem dX3_bringBack_20 : decode cX3_bringBack 20 = .ok (.getfield 19, 3) := by decide +kernel
theorem dX3_bringBack_23 : decode cX3_bringBack 23 = .ok (.bipush 6, 2) := by decide +kernel
theorem dX3_bringBack_25 : decode cX3_bringBack 25 = .ok (.iadd, 1) := by decide +kernel
theorem dX3_bringBack_26 : decode cX3_bringBack 26 = .ok (.iconst 1, 1) := by decide +kernel
theorem dX3_bringBack_27 : decode cX3_bringBack 27 = .ok (.isub, 1) := by decide +kernel
theorem dX3_bringBack_28 : decode cX3_bringBack 28 = .ok (.bipush 6, 2) := by decide +kernel
theorem dX3_bringBack_30 : decode cX3_bringBack 30 = .ok (.irem, 1) := by decide +kernel
theorem dX3_bringBack_31 : decode cX3_bringBack 31 = .ok (.putfield 19, 3) := by decide +kernel
theorem dX3_bringBack_34 : decode cX3_bringBack 34 = .ok (.aload_n 0, 1) := by decide +kernel
theorem dX3_bringBack_35 : decode cX3_bringBack 35 = .ok (.getfield 11, 3) := by decide +kernel
theorem dX3_bringBack_38 : decode cX3_bringBack 38 = .ok (.aload_n 0, 1) := by decide +kernel
theorem dX3_bringBack_39 : decode cX3_bringBack 39 = .ok (.getfield 19, 3) := by decide +kernel
theorem dX3_bringBack_42 : decode cX3_bringBack 42 = .ok (.sipush 128, 3) := by decide +kernel
theorem dX3_bringBack_45 : decode cX3_bringBack 45 = .ok (.imul, 1) := by decide +kernel
theorem dX3_bringBack_46 : decode cX3_bringBack 46 = .ok (.aload_n 1, 1) := by decide +kernel
theorem dX3_bringBack_47 : decode cX3_bringBack 47 = .ok (.getfield 22, 3) := by decide +kernel
theorem dX3_bringBack_50 : decode cX3_bringBack 50 = .ok (.iconst 0, 1) := by decide +kernel
theorem dX3_bringBack_51 : decode cX3_bringBack 51 = .ok (.sipush 128, 3) := by decide +kernel
theorem dX3_bringBack_54 : decode cX3_bringBack 54 = .ok (.invokestatic 25, 3) := by decide +kernel
theorem dX3_bringBack_57 : decode cX3_bringBack 57 = .ok (.return_, 1) := by decide +kernel
theorem dX3_become_0 : decode cX3_become 0 = .ok (.aload_n 1, 1) := by decide +kernel
theorem dX3_become_1 : decode cX3_become 1 = .ok (.getfield 11, 3) := by decide +kernel
theorem dX3_become_4 : decode cX3_become 4 = .ok (.iconst 0, 1) := by decide +kernel
theorem dX3_become_5 : decode cX3_become 5 = .ok (.aload_n 0, 1) := by decide +kernel
theorem dX3_become_6 : decode cX3_become 6 = .ok (.getfield 11, 3) := by decide +kernel
theorem dX3_become_9 : decode cX3_become 9 = .ok (.iconst 0, 1) := by decide +kernel
theorem dX3_become_10 : decode cX3_become 10 = .ok (.aload_n 0, 1) := by decide +kernel
theorem dX3_become_11 : decode cX3_become 11 = .ok (.getfield 11, 3) := by decide +kernel
theorem dX3_become_14 : decode cX3_become 14 = .ok (.arraylength, 1) := by decide +kernel
theorem dX3_become_15 : decode cX3_become 15 = .ok (.invokestatic 25, 3) := by decide +kernel
theorem dX3_become_18 : decode cX3_become 18 = .ok (.aload_n 0, 1) := by decide +kernel
theorem dX3_become_19 : decode cX3_become 19 = .ok (.aload_n 1, 1) := by decide +kernel
theorem dX3_become_20 : decode cX3_become 20 = .ok (.getfield 15, 3) := by decide +kernel
theorem dX3_become_23 : decode cX3_become 23 = .ok (.putfield 15, 3) := by decide +kernel
theorem dX3_become_26 : decode cX3_become 26 = .ok (.aload_n 0, 1) := by decide +kernel
theorem dX3_become_27 : decode cX3_become 27 = .ok (.aload_n 1, 1) := by decide +kernel
theorem dX3_become_28 : decode cX3_become 28 = .ok (.getfield 19, 3) := by decide +kernel
theorem dX3_become_31 : decode cX3_become 31 = .ok (.putfield 19, 3) := by decide +kernel
theorem dX3_become_34 : decode cX3_become 34 = .ok (.return_, 1) := by decide +kernel
theorem dX4_init_0 : decode cX4_init 0 = .ok (.aload_n 0, 1) := by decide +kernel
theorem dX4_init_1 : decode cX4_init 1 = .ok (.invokespecial 3, 3) := by decide +kernel
theorem dX4_init_4 : decode cX4_init 4 = .ok (.aload_n 0, 1) := by decide +kernel
theorem dX4_init_5 : decode cX4_init 5 = .ok (.iconst 0, 1) := by decide +kernel
theorem dX4_init_6 : decode cX4_init 6 = .ok (.putfield 9, 3) := by decide +kernel
theorem dX4_init_9 : decode cX4_init 9 = .ok (.aload_n 0, 1) := by decide +kernel
theorem dX4_init_10 : decode cX4_init 10 = .ok (.iconst 0, 1) := by decide +kernel
theorem dX4_init_11 : decode cX4_init 11 = .ok (.putfield 15, 3) := by decide +kernel
theorem dX4_init_14 : decode cX4_init 14 = .ok (.aload_n 0, 1) := by decide +kernel
theorem dX4_init_15 : decode cX4_init 15 = .ok (.sipush 2117, 3) := by decide +kernel
theorem dX4_init_18 : decode cX4_init 18 = .ok (.newarray .int, 2) := by decide +kernel
theorem dX4_init_20 : decode cX4_init 20 = .ok (.putfield 18, 3) := by decide +kernel
theorem dX4_init_23 : decode cX4_init 23 = .ok (.aload_n 0, 1) := by decide +kernel
theorem dX4_init_24 : decode cX4_init 24 = .ok (.bipush 6, 2) := by decide +kernel
theorem dX4_init_26 : decode cX4_init 26 = .ok (.newarray .int, 2) := by decide +kernel
theorem dX4_init_28 : decode cX4_init 28 = .ok (.putfield 22, 3) := by decide +kernel
theorem dX4_init_31 : decode cX4_init 31 = .ok (.return_, 1) := by decide +kernel
theorem dX4_found_0 : decode cX4_found 0 = .ok (.aload_n 0, 1) := by decide +kernel
theorem dX4_found_1 : decode cX4_found 1 = .ok (.getfield 15, 3) := by decide +kernel
theorem dX4_found_4 : decode cX4_found 4 = .ok (.ireturn, 1) := by decide +kernel
theorem dX4_freshen_0 : decode cX4_freshen 0 = .ok (.aload_n 0, 1) := by decide +kernel
theorem dX4_freshen_1 : decode cX4_freshen 1 = .ok (.getfield 9, 3) := by decide +kernel
theorem dX4_freshen_4 : decode cX4_freshen 4 = .ok (.iload_n 3, 1) := by decide +kernel
theorem dX4_freshen_5 : decode cX4_freshen 5 = .ok (.if_icmp .ne 4, 3) := by decide +kernel
theorem dX4_freshen_8 : decode cX4_freshen 8 = .ok (.return_, 1) := by decide +kernel
theorem dX4_freshen_9 : decode cX4_freshen 9 = .ok (.aload_n 0, 1) := by decide +kernel
theorem dX4_freshen_10 : decode cX4_freshen 10 = .ok (.iload_n 3, 1) := by decide +kernel
theorem dX4_freshen_11 : decode cX4_freshen 11 = .ok (.putfield 9, 3) := by decide +kernel
theorem dX4_freshen_14 : decode cX4_freshen 14 = .ok (.aload_n 0, 1) := by decide +kernel
theorem dX4_freshen_15 : decode cX4_freshen 15 = .ok (.iconst 0, 1) := by decide +kernel
theorem dX4_freshen_16 : decode cX4_freshen 16 = .ok (.putfield 15, 3) := by decide +kernel
theorem dX4_freshen_19 : decode cX4_freshen 19 = .ok (.aload_n 0, 1) := by decide +kernel
theorem dX4_freshen_20 : decode cX4_freshen 20 = .ok (.aload_n 1, 1) := by decide +kernel
theorem dX4_freshen_21 : decode cX4_freshen 21 = .ok (.aload_n 2, 1) := by decide +kernel
theorem dX4_freshen_22 : decode cX4_freshen 22 = .ok (.iconst 1, 1) := by decide +kernel
theorem dX4_freshen_23 : decode cX4_freshen 23 = .ok (.invokestatic 25, 3) := by decide +kernel
theorem dX4_freshen_26 : decode cX4_freshen 26 = .ok (.return_, 1) := by decide +kernel
theorem dX4_search_0 : decode cX4_search 0 = .ok (.iload_n 3, 1) := by decide +kernel
theorem dX4_search_1 : decode cX4_search 1 = .ok (.aload_n 1, 1) := by decide +kernel
theorem dX4_search_2 : decode cX4_search 2 = .ok (.invokevirtual 29, 3) := by decide +kernel
theorem dX4_search_5 : decode cX4_search 5 = .ok (.if_icmp .ge 9, 3) := by decide +kernel
theorem dX4_search_8 : decode cX4_search 8 = .ok (.iload_n 3, 1) := by decide +kernel
theorem dX4_search_9 : decode cX4_search 9 = .ok (.bipush 6, 2) := by decide +kernel
theorem dX4_search_11 : decode cX4_search 11 = .ok (.if_icmp .lt 10, 3) := by decide +kernel
theorem dX4_search_14 : decode cX4_search 14 = .ok (.aload_n 0, 1) := by decide +kernel
theorem dX4_search_15 : decode cX4_search 15 = .ok (.aload_n 1, 1) := by decide +kernel
theorem dX4_search_16 : decode cX4_search 16 = .ok (.aload_n 2, 1) := by decide +kernel
theorem dX4_search_17 : decode cX4_search 17 = .ok (.invokevirtual 35, 3) := by decide +kernel
theorem dX4_search_20 : decode cX4_search 20 = .ok (.return_, 1) := by decide +kernel
theorem dX4_search_21 : decode cX4_search 21 = .ok (.iconst 0, 1) := by decide +kernel
theorem dX4_search_22 : decode cX4_search 22 = .ok (.istore 4, 2) := by decide +kernel
theorem dX4_search_24 : decode cX4_search 24 = .ok (.iload 4, 2) := by decide +kernel
theorem dX4_search_26 : decode cX4_search 26 = .ok (.bipush 9, 2) := by decide +kernel
theorem dX4_search_28 : decode cX4_search 28 = .ok (.if_icmp .gt 60, 3) := by decide +kernel
theorem dX4_search_31 : decode cX4_search 31 = .ok (.iload 4, 2) := by decide +kernel
theorem dX4_search_33 : decode cX4_search 33 = .ok (.bipush 9, 2) := by decide +kernel
theorem dX4_search_35 : decode cX4_search 35 = .ok (.if_icmp .eq 22, 3) := by decide +kernel
theorem dX4_search_38 : decode cX4_search 38 = .ok (.aload_n 1, 1) := by decide +kernel
theorem dX4_search_39 : decode cX4_search 39 = .ok (.iload 4, 2) := by decide +kernel
theorem dX4_search_41 : decode cX4_search 41 = .ok (.invokevirtual 39, 3) := by decide +kernel
theorem dX4_search_44 : decode cX4_search 44 = .ok (.ifCond .eq 38, 3) := by decide +kernel
theorem dX4_search_47 : decode cX4_search 47 = .ok (.aload_n 1, 1) := by decide +kernel
theorem dX4_search_48 : decode cX4_search 48 = .ok (.iload_n 3, 1) := by decide +kernel
theorem dX4_search_49 : decode cX4_search 49 = .ok (.iload 4, 2) := by decide +kernel
theorem dX4_search_51 : decode cX4_search 51 = .ok (.invokevirtual 43, 3) := by decide +kernel
theorem dX4_search_54 : decode cX4_search 54 = .ok (.ifCond .eq 28, 3) := by decide +kernel
theorem dX4_search_57 : decode cX4_search 57 = .ok (.aload_n 0, 1) := by decide +kernel
theorem dX4_search_58 : decode cX4_search 58 = .ok (.getfield 22, 3) := by decide +kernel
theorem dX4_search_61 : decode cX4_search 61 = .ok (.iload_n 3, 1) := by decide +kernel
theorem dX4_search_62 : decode cX4_search 62 = .ok (.iload 4, 2) := by decide +kernel
theorem dX4_search_64 : decode cX4_search 64 = .ok (.iastore, 1) := by decide +kernel
theorem dX4_search_65 : decode cX4_search 65 = .ok (.aload_n 0, 1) := by decide +kernel
theorem dX4_search_66 : decode cX4_search 66 = .ok (.iload_n 3, 1) := by decide +kernel
theorem dX4_search_67 : decode cX4_search 67 = .ok (.invokevirtual 47, 3) := by decide +kernel
theorem dX4_search_70 : decode cX4_search 70 = .ok (.ifCond .eq 12, 3) := by decide +kernel
theorem dX4_search_73 : decode cX4_search 73 = .ok (.aload_n 0, 1) := by decide +kernel
theorem dX4_search_74 : decode cX4_search 74 = .ok (.aload_n 1, 1) := by decide +kernel
theorem dX4_search_75 : decode cX4_search 75 = .ok (.aload_n 2, 1) := by decide +kernel
theorem dX4_search_76 : decode cX4_search 76 = .ok (.iload_n 3, 1) := by decide +kernel
theorem dX4_search_77 : decode cX4_search 77 = .ok (.iconst 1, 1) := by decide +kernel
theorem dX4_search_78 : decode cX4_search 78 = .ok (.iadd, 1) := by decide +kernel
theorem dX4_search_79 : decode cX4_search 79 = .ok (.invokestatic 25, 3) := by decide +kernel
theorem dX4_search_82 : decode cX4_search 82 = .ok (.iinc 4 1, 3) := by decide +kernel
theorem dX4_search_85 : decode cX4_search 85 = .ok (.goto (-61), 3) := by decide +kernel
theorem dX4_search_88 : decode cX4_search 88 = .ok (.return_, 1) := by decide +kernel
theorem dX4_mayLead_0 : decode cX4_mayLead 0 = .ok (.iconst 1, 1) := by decide +kernel
theorem dX4_mayLead_1 : decode cX4_mayLead 1 = .ok (.istore_n 2, 1) := by decide +kernel
theorem dX4_mayLead_2 : decode cX4_mayLead 2 = .ok (.iload_n 2, 1) := by decide +kernel
theorem dX4_mayLead_3 : decode cX4_mayLead 3 = .ok (.iload_n 1, 1) := by decide +kernel
theorem dX4_mayLead_4 : decode cX4_mayLead 4 = .ok (.if_icmp .gt 95, 3) := by decide +kernel
theorem dX4_mayLead_7 : decode cX4_mayLead 7 = .ok (.aload_n 0, 1) := by decide +kernel
theorem dX4_mayLead_8 : decode cX4_mayLead 8 = .ok (.getfield 22, 3) := by decide +kernel
theorem dX4_mayLead_11 : decode cX4_mayLead 11 = .ok (.iload_n 2, 1) := by decide +kernel
theorem dX4_mayLead_12 : decode cX4_mayLead 12 = .ok (.iaload, 1) := by decide +kernel
theorem dX4_mayLead_13 : decode cX4_mayLead 13 = .ok (.istore_n 3, 1) := by decide +kernel
theorem dX4_mayLead_14 : decode cX4_mayLead 14 = .ok (.iload_n 3, 1) := by decide +kernel
theorem dX4_mayLead_15 : decode cX4_mayLead 15 = .ok (.bipush 9, 2) := by decide +kernel
theorem dX4_mayLead_17 : decode cX4_mayLead 17 = .ok (.if_icmp .eq 7, 3) := by decide +kernel
theorem dX4_mayLead_20 : decode cX4_mayLead 20 = .ok (.iconst 1, 1) := by decide +kernel
theorem dX4_mayLead_21 : decode cX4_mayLead 21 = .ok (.goto 4, 3) := by decide +kernel
theorem dX4_mayLead_24 : decode cX4_mayLead 24 = .ok (.iconst 0, 1) := by decide +kernel
theorem dX4_mayLead_25 : decode cX4_mayLead 25 = .ok (.istore 4, 2) := by decide +kernel
theorem dX4_mayLead_27 : decode cX4_mayLead 27 = .ok (.iconst 0, 1) := by decide +kernel
theorem dX4_mayLead_28 : decode cX4_mayLead 28 = .ok (.istore 5, 2) := by decide +kernel
theorem dX4_mayLead_30 : decode cX4_mayLead 30 = .ok (.iload 5, 2) := by decide +kernel
theorem dX4_mayLead_32 : decode cX4_mayLead 32 = .ok (.bipush 6, 2) := by decide +kernel
theorem dX4_mayLead_34 : decode cX4_mayLead 34 = .ok (.if_icmp .ge 25, 3) := by decide +kernel
theorem dX4_mayLead_37 : decode cX4_mayLead 37 = .ok (.iload_n 3, 1) := by decide +kernel
theorem dX4_mayLead_38 : decode cX4_mayLead 38 = .ok (.ifCond .le 21, 3) := by decide +kernel
theorem dX4_mayLead_41 : decode cX4_mayLead 41 = .ok (.iload_n 3, 1) := by decide +kernel
theorem dX4_mayLead_42 : decode cX4_mayLead 42 = .ok (.iload_n 1, 1) := by decide +kernel
theorem dX4_mayLead_43 : decode cX4_mayLead 43 = .ok (.if_icmp .gt 16, 3) := by decide +kernel
theorem dX4_mayLead_46 : decode cX4_mayLead 46 = .ok (.aload_n 0, 1) := by decide +kernel
theorem dX4_mayLead_47 : decode cX4_mayLead 47 = .ok (.getfield 22, 3) := by decide +kernel
theorem dX4_mayLead_50 : decode cX4_mayLead 50 = .ok (.iload_n 3, 1) := by decide +kernel
theorem dX4_mayLead_51 : decode cX4_mayLead 51 = .ok (.iaload, 1) := by decide +kernel
theorem dX4_mayLead_52 : decode cX4_mayLead 52 = .ok (.istore_n 3, 1) := by decide +kernel
theorem dX4_mayLead_53 : decode cX4_mayLead 53 = .ok (.iinc 5 1, 3) := by decide +kernel
theorem dX4_mayLead_56 : decode cX4_mayLead 56 = .ok (.goto (-26), 3) := by decide +kernel
theorem dX4_mayLead_59 : decode cX4_mayLead 59 = .ok (.iload_n 3, 1) := by decide +kernel
theorem dX4_mayLead_60 : decode cX4_mayLead 60 = .ok (.bipush 9, 2) := by decide +kernel
theorem dX4_mayLead_62 : decode cX4_mayLead 62 = .ok (.if_icmp .eq 12, 3) := by decide +kernel
theorem dX4_mayLead_65 : decode cX4_mayLead 65 = .ok (.iload_n 3, 1) := by decide +kernel
theorem dX4_mayLead_66 : decode cX4_mayLead 66 = .ok (.ifCond .le 12, 3) := by decide +kernel
theorem dX4_mayLead_69 : decode cX4_mayLead 69 = .ok (.iload_n 3, 1) := by decide +kernel
theorem dX4_mayLead_70 : decode cX4_mayLead 70 = .ok (.iload_n 1, 1) := by decide +kernel
theorem dX4_mayLead_71 : decode cX4_mayLead 71 = .ok (.if_icmp .gt 7, 3) := by decide +kernel
theorem dX4_mayLead_74 : decode cX4_mayLead 74 = .ok (.iconst 1, 1) := by decide +kernel
theorem dX4_mayLead_75 : decode cX4_mayLead 75 = .ok (.goto 4, 3) := by decide +kernel
theorem dX4_mayLead_78 : decode cX4_mayLead 78 = .ok (.iconst 0, 1) := by decide +kernel
theorem dX4_mayLead_79 : decode cX4_mayLead 79 = .ok (.istore 5, 2) := by decide +kernel
theorem dX4_mayLead_81 : decode cX4_mayLead 81 = .ok (.iload 4, 2) := by decide +kernel
theorem dX4_mayLead_83 : decode cX4_mayLead 83 = .ok (.ifCond .eq 10, 3) := by decide +kernel
theorem dX4_mayLead_86 : decode cX4_mayLead 86 = .ok (.iload 5, 2) := by decide +kernel
theorem dX4_mayLead_88 : decode cX4_mayLead 88 = .ok (.ifCond .eq 5, 3) := by decide +kernel
theorem dX4_mayLead_91 : decode cX4_mayLead 91 = .ok (.iconst 0, 1) := by decide +kernel
theorem dX4_mayLead_92 : decode cX4_mayLead 92 = .ok (.ireturn, 1) := by decide +kernel
theorem dX4_mayLead_93 : decode cX4_mayLead 93 = .ok (.iinc 2 1, 3) := by decide +kernel
theorem dX4_mayLead_96 : decode cX4_mayLead 96 = .ok (.goto (-94), 3) := by decide +kernel
theorem dX4_mayLead_99 : decode cX4_mayLead 99 = .ok (.iconst 1, 1) := by decide +kernel
theorem dX4_mayLead_100 : decode cX4_mayLead 100 = .ok (.ireturn, 1) := by decide +kernel
theorem dX4_keepIfStable_0 : decode cX4_keepIfStable 0 = .ok (.aload_n 2, 1) := by decide +kernel
theorem dX4_keepIfStable_1 : decode cX4_keepIfStable 1 = .ok (.aload_n 0, 1) := by decide +kernel
theorem dX4_keepIfStable_2 : decode cX4_keepIfStable 2 = .ok (.getfield 22, 3) := by decide +kernel
theorem dX4_keepIfStable_5 : decode cX4_keepIfStable 5 = .ok (.aload_n 1, 1) := by decide +kernel
theorem dX4_keepIfStable_6 : decode cX4_keepIfStable 6 = .ok (.invokevirtual 29, 3) := by decide +kernel
theorem dX4_keepIfStable_9 : decode cX4_keepIfStable 9 = .ok (.invokevirtual 50, 3) := by decide +kernel
theorem dX4_keepIfStable_12 : decode cX4_keepIfStable 12 = .ok (.iconst 0, 1) := by decide +kernel
theorem dX4_keepIfStable_13 : decode cX4_keepIfStable 13 = .ok (.istore_n 3, 1) := by decide +kernel
theorem dX4_keepIfStable_14 : decode cX4_keepIfStable 14 = .ok (.iconst 1, 1) := by decide +kernel
theorem dX4_keepIfStable_15 : decode cX4_keepIfStable 15 = .ok (.istore 4, 2) := by decide +kernel
theorem dX4_keepIfStable_17 : decode cX4_keepIfStable 17 = .ok (.iload 4, 2) := by decide +kernel
theorem dX4_keepIfStable_19 : decode cX4_keepIfStable 19 = .ok (.aload_n 1, 1) := by decide +kernel
theorem dX4_keepIfStable_20 : decode cX4_keepIfStable 20 = .ok (.invokevirtual 29, 3) := by decide +kernel
theorem dX4_keepIfStable_23 : decode cX4_keepIfStable 23 = .ok (.if_icmp .ge 39, 3) := by decide +kernel
theorem dX4_keepIfStable_26 : decode cX4_keepIfStable 26 = .ok (.aload_n 2, 1) := by decide +kernel
theorem dX4_keepIfStable_27 : decode cX4_keepIfStable 27 = .ok (.iload 4, 2) := by decide +kernel
theorem dX4_keepIfStable_29 : decode cX4_keepIfStable 29 = .ok (.invokevirtual 56, 3) := by decide +kernel
theorem dX4_keepIfStable_32 : decode cX4_keepIfStable 32 = .ok (.aload_n 2, 1) := by decide +kernel
theorem dX4_keepIfStable_33 : decode cX4_keepIfStable 33 = .ok (.aload_n 1, 1) := by decide +kernel
theorem dX4_keepIfStable_34 : decode cX4_keepIfStable 34 = .ok (.iload 4, 2) := by decide +kernel
theorem dX4_keepIfStable_36 : decode cX4_keepIfStable 36 = .ok (.invokevirtual 60, 3) := by decide +kernel
theorem dX4_keepIfStable_39 : decode cX4_keepIfStable 39 = .ok (.if_icmp .eq 4, 3) := by decide +kernel
theorem dX4_keepIfStable_42 : decode cX4_keepIfStable 42 = .ok (.return_, 1) := by decide +kernel
theorem dX4_keepIfStable_43 : decode cX4_keepIfStable 43 = .ok (.iload_n 3, 1) := by decide +kernel
theorem dX4_keepIfStable_44 : decode cX4_keepIfStable 44 = .ok (.bipush 10, 2) := by decide +kernel
theorem dX4_keepIfStable_46 : decode cX4_keepIfStable 46 = .ok (.imul, 1) := by decide +kernel
theorem dX4_keepIfStable_47 : decode cX4_keepIfStable 47 = .ok (.aload_n 0, 1) := by decide +kernel
theorem dX4_keepIfStable_48 : decode cX4_keepIfStable 48 = .ok (.getfield 22, 3) := by decide +kernel
theorem dX4_keepIfStable_51 : decode cX4_keepIfStable 51 = .ok (.iload 4, 2) := by decide +kernel
theorem dX4_keepIfStable_53 : decode cX4_keepIfStable 53 = .ok (.iaload, 1) := by decide +kernel
theorem dX4_keepIfStable_54 : decode cX4_keepIfStable 54 = .ok (.iadd, 1) := by decide +kernel
theorem dX4_keepIfStable_55 : decode cX4_keepIfStable 55 = .ok (.istore_n 3, 1) := by decide +kernel
theorem dX4_keepIfStable_56 : decode cX4_keepIfStable 56 = .ok (.iinc 4 1, 3) := by decide +kernel
theorem dX4_keepIfStable_59 : decode cX4_keepIfStable 59 = .ok (.goto (-42), 3) := by decide +kernel
theorem dX4_keepIfStable_62 : decode cX4_keepIfStable 62 = .ok (.aload_n 0, 1) := by decide +kernel
theorem dX4_keepIfStable_63 : decode cX4_keepIfStable 63 = .ok (.getfield 15, 3) := by decide +kernel
theorem dX4_keepIfStable_66 : decode cX4_keepIfStable 66 = .ok (.sipush 2117, 3) := by decide +kernel
theorem dX4_keepIfStable_69 : decode cX4_keepIfStable 69 = .ok (.if_icmp .ge 23, 3) := by decide +kernel
theorem dX4_keepIfStable_72 : decode cX4_keepIfStable 72 = .ok (.aload_n 0, 1) := by decide +kernel
theorem dX4_keepIfStable_73 : decode cX4_keepIfStable 73 = .ok (.getfield 18, 3) := by decide +kernel
theorem dX4_keepIfStable_76 : decode cX4_keepIfStable 76 = .ok (.aload_n 0, 1) := by decide +kernel
theorem dX4_keepIfStable_77 : decode cX4_keepIfStable 77 = .ok (.getfield 15, 3) := by decide +kernel
theorem dX4_keepIfStable_80 : decode cX4_keepIfStable 80 = .ok (.iload_n 3, 1) := by decide +kernel
theorem dX4_keepIfStable_81 : decode cX4_keepIfStable 81 = .ok (.iastore, 1) := by decide +kernel
theorem dX4_keepIfStable_82 : decode cX4_keepIfStable 82 = .ok (.aload_n 0, 1) := by decide +kernel
theorem dX4_keepIfStable_83 : decode cX4_keepIfStable 83 = .ok (.dup, 1) := by decide +kernel
theorem dX4_keepIfStable_84 : decode cX4_keepIfStable 84 = .ok (.getfield 15, 3) := by decide +kernel
theorem dX4_keepIfStable_87 : decode cX4_keepIfStable 87 = .ok (.iconst 1, 1) := by decide +kernel
theorem dX4_keepIfStable_88 : decode cX4_keepIfStable 88 = .ok (.iadd, 1) := by decide +kernel
theorem dX4_keepIfStable_89 : decode cX4_keepIfStable 89 = .ok (.putfield 15, 3) := by decide +kernel
theorem dX4_keepIfStable_92 : decode cX4_keepIfStable 92 = .ok (.return_, 1) := by decide +kernel
theorem dX4_nextsOf_0 : decode cX4_nextsOf 0 = .ok (.iload_n 1, 1) := by decide +kernel
theorem dX4_nextsOf_1 : decode cX4_nextsOf 1 = .ok (.ifCond .lt 11, 3) := by decide +kernel
theorem dX4_nextsOf_4 : decode cX4_nextsOf 4 = .ok (.iload_n 1, 1) := by decide +kernel
theorem dX4_nextsOf_5 : decode cX4_nextsOf 5 = .ok (.aload_n 0, 1) := by decide +kernel
theorem dX4_nextsOf_6 : decode cX4_nextsOf 6 = .ok (.getfield 15, 3) := by decide +kernel
theorem dX4_nextsOf_9 : decode cX4_nextsOf 9 = .ok (.if_icmp .lt 4, 3) := by decide +kernel
theorem dX4_nextsOf_12 : decode cX4_nextsOf 12 = .ok (.return_, 1) := by decide +kernel
theorem dX4_nextsOf_13 : decode cX4_nextsOf 13 = .ok (.aload_n 0, 1) := by decide +kernel
theorem dX4_nextsOf_14 : decode cX4_nextsOf 14 = .ok (.getfield 18, 3) := by decide +kernel
theorem dX4_nextsOf_17 : decode cX4_nextsOf 17 = .ok (.iload_n 1, 1) := by decide +kernel
theorem dX4_nextsOf_18 : decode cX4_nextsOf 18 = .ok (.iaload, 1) := by decide +kernel
theorem dX4_nextsOf_19 : decode cX4_nextsOf 19 = .ok (.istore 4, 2) := by decide +kernel
theorem dX4_nextsOf_21 : decode cX4_nextsOf 21 = .ok (.iload_n 2, 1) := by decide +kernel
theorem dX4_nextsOf_22 : decode cX4_nextsOf 22 = .ok (.iconst 1, 1) := by decide +kernel
theorem dX4_nextsOf_23 : decode cX4_nextsOf 23 = .ok (.isub, 1) := by decide +kernel
theorem dX4_nextsOf_24 : decode cX4_nextsOf 24 = .ok (.istore 5, 2) := by decide +kernel
theorem dX4_nextsOf_26 : decode cX4_nextsOf 26 = .ok (.iload 5, 2) := by decide +kernel
theorem dX4_nextsOf_28 : decode cX4_nextsOf 28 = .ok (.iconst 1, 1) := by decide +kernel
theorem dX4_nextsOf_29 : decode cX4_nextsOf 29 = .ok (.if_icmp .lt 25, 3) := by decide +kernel
theorem dX4_nextsOf_32 : decode cX4_nextsOf 32 = .ok (.aload_n 3, 1) := by decide +kernel
theorem dX4_nextsOf_33 : decode cX4_nextsOf 33 = .ok (.iload 5, 2) := by decide +kernel
theorem dX4_nextsOf_35 : decode cX4_nextsOf 35 = .ok (.iload 4, 2) := by decide +kernel
theorem dX4_nextsOf_37 : decode cX4_nextsOf 37 = .ok (.bipush 10, 2) := by decide +kernel
theorem dX4_nextsOf_39 : decode cX4_nextsOf 39 = .ok (.irem, 1) := by decide +kernel
theorem dX4_nextsOf_40 : decode cX4_nextsOf 40 = .ok (.iastore, 1) := by decide +kernel
theorem dX4_nextsOf_41 : decode cX4_nextsOf 41 = .ok (.iload 4, 2) := by decide +kernel
theorem dX4_nextsOf_43 : decode cX4_nextsOf 43 = .ok (.bipush 10, 2) := by decide +kernel
theorem dX4_nextsOf_45 : decode cX4_nextsOf 45 = .ok (.idiv, 1) := by decide +kernel
theorem dX4_nextsOf_46 : decode cX4_nextsOf 46 = .ok (.istore 4, 2) := by decide +kernel
theorem dX4_nextsOf_48 : decode cX4_nextsOf 48 = .ok (.iinc 5 (-1), 3) := by decide +kernel
theorem dX4_nextsOf_51 : decode cX4_nextsOf 51 = .ok (.goto (-25), 3) := by decide +kernel
theorem dX4_nextsOf_54 : decode cX4_nextsOf 54 = .ok (.return_, 1) := by decide +kernel
theorem dX5_init_0 : decode cX5_init 0 = .ok (.aload_n 0, 1) := by decide +kernel
theorem dX5_init_1 : decode cX5_init 1 = .ok (.invokespecial 3, 3) := by decide +kernel
theorem dX5_init_4 : decode cX5_init 4 = .ok (.aload_n 0, 1) := by decide +kernel
theorem dX5_init_5 : decode cX5_init 5 = .ok (.iconst 0, 1) := by decide +kernel
theorem dX5_init_6 : decode cX5_init 6 = .ok (.putfield 9, 3) := by decide +kernel
theorem dX5_init_9 : decode cX5_init 9 = .ok (.aload_n 0, 1) := by decide +kernel
theorem dX5_init_10 : decode cX5_init 10 = .ok (.iconst 0, 1) := by decide +kernel
theorem dX5_init_11 : decode cX5_init 11 = .ok (.putfield 15, 3) := by decide +kernel
theorem dX5_init_14 : decode cX5_init 14 = .ok (.aload_n 0, 1) := by decide +kernel
theorem dX5_init_15 : decode cX5_init 15 = .ok (.bipush (-4), 2) := by decide +kernel
theorem dX5_init_17 : decode cX5_init 17 = .ok (.putfield 18, 3) := by decide +kernel
theorem dX5_init_20 : decode cX5_init 20 = .ok (.aload_n 0, 1) := by decide +kernel
theorem dX5_init_21 : decode cX5_init 21 = .ok (.iconst 0, 1) := by decide +kernel
theorem dX5_init_22 : decode cX5_init 22 = .ok (.putfield 21, 3) := by decide +kernel
theorem dX5_init_25 : decode cX5_init 25 = .ok (.aload_n 0, 1) := by decide +kernel
theorem dX5_init_26 : decode cX5_init 26 = .ok (.sipush 1956, 3) := by decide +kernel
theorem dX5_init_29 : decode cX5_init 29 = .ok (.newarray .long, 2) := by decide +kernel
theorem dX5_init_31 : decode cX5_init 31 = .ok (.putfield 26, 3) := by decide +kernel
theorem dX5_init_34 : decode cX5_init 34 = .ok (.aload_n 0, 1) := by decide +kernel
theorem dX5_init_35 : decode cX5_init 35 = .ok (.bipush 6, 2) := by decide +kernel
theorem dX5_init_37 : decode cX5_init 37 = .ok (.newarray .long, 2) := by decide +kernel
theorem dX5_init_39 : decode cX5_init 39 = .ok (.putfield 30, 3) := by decide +kernel
theorem dX5_init_42 : decode cX5_init 42 = .ok (.aload_n 0, 1) := by decide +kernel
theorem dX5_init_43 : decode cX5_init 43 = .ok (.bipush 6, 2) := by decide +kernel
theorem dX5_init_45 : decode cX5_init 45 = .ok (.newarray .long, 2) := by decide +kernel
theorem dX5_init_47 : decode cX5_init 47 = .ok (.putfield 33, 3) := by decide +kernel
theorem dX5_init_50 : decode cX5_init 50 = .ok (.aload_n 0, 1) := by decide +kernel
theorem dX5_init_51 : decode cX5_init 51 = .ok (.bipush 6, 2) := by decide +kernel
theorem dX5_init_53 : decode cX5_init 53 = .ok (.newarray .long, 2) := by decide +kernel
theorem dX5_init_55 : decode cX5_init 55 = .ok (.putfield 36, 3) := by decide +kernel
theorem dX5_init_58 : decode cX5_init 58 = .ok (.aload_n 0, 1) := by decide +kernel
theorem dX5_init_59 : decode cX5_init 59 = .ok (.bipush 6, 2) := by decide +kernel
theorem dX5_init_61 : decode cX5_init 61 = .ok (.newarray .long, 2) := by decide +kernel
theorem dX5_init_63 : decode cX5_init 63 = .ok (.putfield 39, 3) := by decide +kernel
theorem dX5_init_66 : decode cX5_init 66 = .ok (.return_, 1) := by decide +kernel
theorem dX5_freshen_0 : decode cX5_freshen 0 = .ok (.aload_n 0, 1) := by decide +kernel
theorem dX5_freshen_1 : decode cX5_freshen 1 = .ok (.getfield 21, 3) := by decide +kernel
theorem dX5_freshen_4 : decode cX5_freshen 4 = .ok (.aload_n 2, 1) := by decide +kernel
theorem dX5_freshen_5 : decode cX5_freshen 5 = .ok (.invokevirtual 42, 3) := by decide +kernel
theorem dX5_freshen_8 : decode cX5_freshen 8 = .ok (.if_icmp .ne 4, 3) := by decide +kernel
theorem dX5_freshen_11 : decode cX5_freshen 11 = .ok (.return_, 1) := by decide +kernel
theorem dX5_freshen_12 : decode cX5_freshen 12 = .ok (.aload_n 0, 1) := by decide +kernel
theorem dX5_freshen_13 : decode cX5_freshen 13 = .ok (.aload_n 2, 1) := by decide +kernel
theorem dX5_freshen_14 : decode cX5_freshen 14 = .ok (.invokevirtual 42, 3) := by decide +kernel
theorem dX5_freshen_17 : decode cX5_freshen 17 = .ok (.putfield 21, 3) := by decide +kernel
theorem dX5_freshen_20 : decode cX5_freshen 20 = .ok (.aload_n 0, 1) := by decide +kernel
theorem dX5_freshen_21 : decode cX5_freshen 21 = .ok (.iconst 0, 1) := by decide +kernel
theorem dX5_freshen_22 : decode cX5_freshen 22 = .ok (.putfield 9, 3) := by decide +kernel
theorem dX5_freshen_25 : decode cX5_freshen 25 = .ok (.aload_n 0, 1) := by decide +kernel
theorem dX5_freshen_26 : decode cX5_freshen 26 = .ok (.iconst 0, 1) := by decide +kernel
theorem dX5_freshen_27 : decode cX5_freshen 27 = .ok (.putfield 15, 3) := by decide +kernel
theorem dX5_freshen_30 : decode cX5_freshen 30 = .ok (.aload_n 0, 1) := by decide +kernel
theorem dX5_freshen_31 : decode cX5_freshen 31 = .ok (.bipush (-4), 2) := by decide +kernel
theorem dX5_freshen_33 : decode cX5_freshen 33 = .ok (.putfield 18, 3) := by decide +kernel
theorem dX5_freshen_36 : decode cX5_freshen 36 = .ok (.aload_n 0, 1) := by decide +kernel
theorem dX5_freshen_37 : decode cX5_freshen 37 = .ok (.getfield 26, 3) := by decide +kernel
theorem dX5_freshen_40 : decode cX5_freshen 40 = .ok (.lconst 0, 1) := by decide +kernel
theorem dX5_freshen_41 : decode cX5_freshen 41 = .ok (.invokestatic 45, 3) := by decide +kernel
theorem dX5_freshen_44 : decode cX5_freshen 44 = .ok (.aload_n 0, 1) := by decide +kernel
theorem dX5_freshen_45 : decode cX5_freshen 45 = .ok (.getfield 30, 3) := by decide +kernel
theorem dX5_freshen_48 : decode cX5_freshen 48 = .ok (.lconst 0, 1) := by decide +kernel
theorem dX5_freshen_49 : decode cX5_freshen 49 = .ok (.invokestatic 45, 3) := by decide +kernel
theorem dX5_freshen_52 : decode cX5_freshen 52 = .ok (.iconst 0, 1) := by decide +kernel
theorem dX5_freshen_53 : decode cX5_freshen 53 = .ok (.istore_n 3, 1) := by decide +kernel
theorem dX5_freshen_54 : decode cX5_freshen 54 = .ok (.iload_n 3, 1) := by decide +kernel
theorem dX5_freshen_55 : decode cX5_freshen 55 = .ok (.aload_n 2, 1) := by decide +kernel
theorem dX5_freshen_56 : decode cX5_freshen 56 = .ok (.invokevirtual 51, 3) := by decide +kernel
theorem dX5_freshen_59 : decode cX5_freshen 59 = .ok (.if_icmp .ge 38, 3) := by decide +kernel
theorem dX5_freshen_62 : decode cX5_freshen 62 = .ok (.aload_n 0, 1) := by decide +kernel
theorem dX5_freshen_63 : decode cX5_freshen 63 = .ok (.getfield 30, 3) := by decide +kernel
theorem dX5_freshen_66 : decode cX5_freshen 66 = .ok (.iload_n 3, 1) := by decide +kernel
theorem dX5_freshen_67 : decode cX5_freshen 67 = .ok (.bipush 64, 2) := by decide +kernel
theorem dX5_freshen_69 : decode cX5_freshen 69 = .ok (.idiv, 1) := by decide +kernel
theorem dX5_freshen_70 : decode cX5_freshen 70 = .ok (.dup2, 1) := by decide +kernel
theorem dX5_freshen_71 : decode cX5_freshen 71 = .ok (.laload, 1) := by decide +kernel
theorem dX5_freshen_72 : decode cX5_freshen 72 = .ok (.lconst 1, 1) := by decide +kernel
theorem dX5_freshen_73 : decode cX5_freshen 73 = .ok (.iload_n 3, 1) := by decide +kernel
theorem dX5_freshen_74 : decode cX5_freshen 74 = .ok (.bipush 64, 2) := by decide +kernel
theorem dX5_freshen_76 : decode cX5_freshen 76 = .ok (.irem, 1) := by decide +kernel
theorem dX5_freshen_77 : decode cX5_freshen 77 = .ok (.lshl, 1) := by decide +kernel
theorem dX5_freshen_78 : decode cX5_freshen 78 = .ok (.lor, 1) := by decide +kernel
theorem dX5_freshen_79 : decode cX5_freshen 79 = .ok (.lastore, 1) := by decide +kernel
theorem dX5_freshen_80 : decode cX5_freshen 80 = .ok (.iload_n 3, 1) := by decide +kernel
theorem dX5_freshen_81 : decode cX5_freshen 81 = .ok (.ifCond .le 10, 3) := by decide +kernel
theorem dX5_freshen_84 : decode cX5_freshen 84 = .ok (.aload_n 0, 1) := by decide +kernel
theorem dX5_freshen_85 : decode cX5_freshen 85 = .ok (.aload_n 1, 1) := by decide +kernel
theorem dX5_freshen_86 : decode cX5_freshen 86 = .ok (.aload_n 2, 1) := by decide +kernel
theorem dX5_freshen_87 : decode cX5_freshen 87 = .ok (.iload_n 3, 1) := by decide +kernel
theorem dX5_freshen_88 : decode cX5_freshen 88 = .ok (.invokevirtual 54, 3) := by decide +kernel
theorem dX5_freshen_91 : decode cX5_freshen 91 = .ok (.iinc 3 1, 3) := by decide +kernel
theorem dX5_freshen_94 : decode cX5_freshen 94 = .ok (.goto (-40), 3) := by decide +kernel
theorem dX5_freshen_97 : decode cX5_freshen 97 = .ok (.iconst 1, 1) := by decide +kernel
theorem dX5_freshen_98 : decode cX5_freshen 98 = .ok (.istore_n 3, 1) := by decide +kernel
theorem dX5_freshen_99 : decode cX5_freshen 99 = .ok (.iconst 0, 1) := by decide +kernel
theorem dX5_freshen_100 : decode cX5_freshen 100 = .ok (.istore 4, 2) := by decide +kernel
theorem dX5_freshen_102 : decode cX5_freshen 102 = .ok (.iload 4, 2) := by decide +kernel
theorem dX5_freshen_104 : decode cX5_freshen 104 = .ok (.sipush 326, 3) := by decide +kernel
theorem dX5_freshen_107 : decode cX5_freshen 107 = .ok (.if_icmp .ge 18, 3) := by decide +kernel
theorem dX5_freshen_110 : decode cX5_freshen 110 = .ok (.iload_n 3, 1) := by decide +kernel
theorem dX5_freshen_111 : decode cX5_freshen 111 = .ok (.ifCond .eq 14, 3) := by decide +kernel
theorem dX5_freshen_114 : decode cX5_freshen 114 = .ok (.aload_n 0, 1) := by decide +kernel
theorem dX5_freshen_115 : decode cX5_freshen 115 = .ok (.invokevirtual 58, 3) := by decide +kernel
theorem dX5_freshen_118 : decode cX5_freshen 118 = .ok (.istore_n 3, 1) := by decide +kernel
theorem dX5_freshen_119 : decode cX5_freshen 119 = .ok (.iinc 4 1, 3) := by decide +kernel
theorem dX5_freshen_122 : decode cX5_freshen 122 = .ok (.goto (-20), 3) := by decide +kernel
theorem dX5_freshen_125 : decode cX5_freshen 125 = .ok (.aload_n 0, 1) := by decide +kernel
theorem dX5_freshen_126 : decode cX5_freshen 126 = .ok (.aload_n 2, 1) := by decide +kernel
theorem dX5_freshen_127 : decode cX5_freshen 127 = .ok (.invokevirtual 62, 3) := by decide +kernel
theorem dX5_freshen_130 : decode cX5_freshen 130 = .ok (.return_, 1) := by decide +kernel
theorem dX5_noteLeading_0 : decode cX5_noteLeading 0 = .ok (.aload_n 2, 1) := by decide +kernel
theorem dX5_noteLeading_1 : decode cX5_noteLeading 1 = .ok (.iload_n 3, 1) := by decide +kernel
theorem dX5_noteLeading_2 : decode cX5_noteLeading 2 = .ok (.invokevirtual 66, 3) := by decide +kernel
theorem dX5_noteLeading_5 : decode cX5_noteLeading 5 = .ok (.istore 4, 2) := by decide +kernel
theorem dX5_noteLeading_7 : decode cX5_noteLeading 7 = .ok (.aload_n 2, 1) := by decide +kernel
theorem dX5_noteLeading_8 : decode cX5_noteLeading 8 = .ok (.iload_n 3, 1) := by decide +kernel
theorem dX5_noteLeading_9 : decode cX5_noteLeading 9 = .ok (.invokevirtual 70, 3) := by decide +kernel
theorem dX5_noteLeading_12 : decode cX5_noteLeading 12 = .ok (.istore 5, 2) := by decide +kernel
theorem dX5_noteLeading_14 : decode cX5_noteLeading 14 = .ok (.aload_n 2, 1) := by decide +kernel
theorem dX5_noteLeading_15 : decode cX5_noteLeading 15 = .ok (.iload 4, 2) := by decide +kernel
theorem dX5_noteLeading_17 : decode cX5_noteLeading 17 = .ok (.invokevirtual 70, 3) := by decide +kernel
theorem dX5_noteLeading_20 : decode cX5_noteLeading 20 = .ok (.istore 6, 2) := by decide +kernel
theorem dX5_noteLeading_22 : decode cX5_noteLeading 22 = .ok (.aload_n 0, 1) := by decide +kernel
theorem dX5_noteLeading_23 : decode cX5_noteLeading 23 = .ok (.iload 4, 2) := by decide +kernel
theorem dX5_noteLeading_25 : decode cX5_noteLeading 25 = .ok (.iload_n 3, 1) := by decide +kernel
theorem dX5_noteLeading_26 : decode cX5_noteLeading 26 = .ok (.invokevirtual 73, 3) := by decide +kernel
theorem dX5_noteLeading_29 : decode cX5_noteLeading 29 = .ok (.iconst 0, 1) := by decide +kernel
theorem dX5_noteLeading_30 : decode cX5_noteLeading 30 = .ok (.istore 7, 2) := by decide +kernel
theorem dX5_noteLeading_32 : decode cX5_noteLeading 32 = .ok (.iload 7, 2) := by decide +kernel
theorem dX5_noteLeading_34 : decode cX5_noteLeading 34 = .ok (.aload_n 2, 1) := by decide +kernel
theorem dX5_noteLeading_35 : decode cX5_noteLeading 35 = .ok (.iload 4, 2) := by decide +kernel
theorem dX5_noteLeading_37 : decode cX5_noteLeading 37 = .ok (.invokevirtual 77, 3) := by decide +kernel
theorem dX5_noteLeading_40 : decode cX5_noteLeading 40 = .ok (.if_icmp .ge 64, 3) := by decide +kernel
theorem dX5_noteLeading_43 : decode cX5_noteLeading 43 = .ok (.aload_n 2, 1) := by decide +kernel
theorem dX5_noteLeading_44 : decode cX5_noteLeading 44 = .ok (.iload 6, 2) := by decide +kernel
theorem dX5_noteLeading_46 : decode cX5_noteLeading 46 = .ok (.iload 7, 2) := by decide +kernel
theorem dX5_noteLeading_48 : decode cX5_noteLeading 48 = .ok (.invokevirtual 80, 3) := by decide +kernel
theorem dX5_noteLeading_51 : decode cX5_noteLeading 51 = .ok (.istore 8, 2) := by decide +kernel
theorem dX5_noteLeading_53 : decode cX5_noteLeading 53 = .ok (.aload_n 1, 1) := by decide +kernel
theorem dX5_noteLeading_54 : decode cX5_noteLeading 54 = .ok (.iload 5, 2) := by decide +kernel
theorem dX5_noteLeading_56 : decode cX5_noteLeading 56 = .ok (.iload 6, 2) := by decide +kernel
theorem dX5_noteLeading_58 : decode cX5_noteLeading 58 = .ok (.aload_n 2, 1) := by decide +kernel
theorem dX5_noteLeading_59 : decode cX5_noteLeading 59 = .ok (.iload 8, 2) := by decide +kernel
theorem dX5_noteLeading_61 : decode cX5_noteLeading 61 = .ok (.invokevirtual 84, 3) := by decide +kernel
theorem dX5_noteLeading_64 : decode cX5_noteLeading 64 = .ok (.aload_n 2, 1) := by decide +kernel
theorem dX5_noteLeading_65 : decode cX5_noteLeading 65 = .ok (.iload 8, 2) := by decide +kernel
theorem dX5_noteLeading_67 : decode cX5_noteLeading 67 = .ok (.invokevirtual 87, 3) := by decide +kernel
theorem dX5_noteLeading_70 : decode cX5_noteLeading 70 = .ok (.invokevirtual 90, 3) := by decide +kernel
theorem dX5_noteLeading_73 : decode cX5_noteLeading 73 = .ok (.istore 9, 2) := by decide +kernel
theorem dX5_noteLeading_75 : decode cX5_noteLeading 75 = .ok (.iload 9, 2) := by decide +kernel
theorem dX5_noteLeading_77 : decode cX5_noteLeading 77 = .ok (.ifCond .eq 14, 3) := by decide +kernel
theorem dX5_noteLeading_80 : decode cX5_noteLeading 80 = .ok (.aload_n 2, 1) := by decide +kernel
theorem dX5_noteLeading_81 : decode cX5_noteLeading 81 = .ok (.iload 8, 2) := by decide +kernel
theorem dX5_noteLeading_83 : decode cX5_noteLeading 83 = .ok (.iload 4, 2) := by decide +kernel
theorem dX5_noteLeading_85 : decode cX5_noteLeading 85 = .ok (.invokevirtual 96, 3) := by decide +kernel
theorem dX5_noteLeading_88 : decode cX5_noteLeading 88 = .ok (.ifCond .ne 10, 3) := by decide +kernel
theorem dX5_noteLeading_91 : decode cX5_noteLeading 91 = .ok (.aload_n 0, 1) := by decide +kernel
theorem dX5_noteLeading_92 : decode cX5_noteLeading 92 = .ok (.iload 8, 2) := by decide +kernel
theorem dX5_noteLeading_94 : decode cX5_noteLeading 94 = .ok (.iload_n 3, 1) := by decide +kernel
theorem dX5_noteLeading_95 : decode cX5_noteLeading 95 = .ok (.invokevirtual 73, 3) := by decide +kernel
theorem dX5_noteLeading_98 : decode cX5_noteLeading 98 = .ok (.iinc 7 1, 3) := by decide +kernel
theorem dX5_noteLeading_101 : decode cX5_noteLeading 101 = .ok (.goto (-69), 3) := by decide +kernel
theorem dX5_noteLeading_104 : decode cX5_noteLeading 104 = .ok (.return_, 1) := by decide +kernel
theorem dX5_mark_0 : decode cX5_mark 0 = .ok (.aload_n 0, 1) := by decide +kernel
theorem dX5_mark_1 : decode cX5_mark 1 = .ok (.getfield 26, 3) := by decide +kernel
theorem dX5_mark_4 : decode cX5_mark 4 = .ok (.iload_n 1, 1) := by decide +kernel
theorem dX5_mark_5 : decode cX5_mark 5 = .ok (.bipush 6, 2) := by decide +kernel
theorem dX5_mark_7 : decode cX5_mark 7 = .ok (.imul, 1) := by decide +kernel
theorem dX5_mark_8 : decode cX5_mark 8 = .ok (.iload_n 2, 1) := by decide +kernel
theorem dX5_mark_9 : decode cX5_mark 9 = .ok (.bipush 64, 2) := by decide +kernel
theorem dX5_mark_11 : decode cX5_mark 11 = .ok (.idiv, 1) := by decide +kernel
theorem dX5_mark_12 : decode cX5_mark 12 = .ok (.iadd, 1) := by decide +kernel
theorem dX5_mark_13 : decode cX5_mark 13 = .ok (.dup2, 1) := by decide +kernel
theorem dX5_mark_14 : decode cX5_mark 14 = .ok (.laload, 1) := by decide +kernel
theorem dX5_mark_15 : decode cX5_mark 15 = .ok (.lconst 1, 1) := by decide +kernel
theorem dX5_mark_16 : decode cX5_mark 16 = .ok (.iload_n 2, 1) := by decide +kernel
theorem dX5_mark_17 : decode cX5_mark 17 = .ok (.bipush 64, 2) := by decide +kernel
theorem dX5_mark_19 : decode cX5_mark 19 = .ok (.irem, 1) := by decide +kernel
theorem dX5_mark_20 : decode cX5_mark 20 = .ok (.lshl, 1) := by decide +kernel
theorem dX5_mark_21 : decode cX5_mark 21 = .ok (.lor, 1) := by decide +kernel
theorem dX5_mark_22 : decode cX5_mark 22 = .ok (.lastore, 1) := by decide +kernel
theorem dX5_mark_23 : decode cX5_mark 23 = .ok (.return_, 1) := by decide +kernel
theorem dX5_thinOut_0 : decode cX5_thinOut 0 = .ok (.aload_n 0, 1) := by decide +kernel
theorem dX5_thinOut_1 : decode cX5_thinOut 1 = .ok (.getfield 39, 3) := by decide +kernel
theorem dX5_thinOut_4 : decode cX5_thinOut 4 = .ok (.lconst 0, 1) := by decide +kernel
theorem dX5_thinOut_5 : decode cX5_thinOut 5 = .ok (.invokestatic 45, 3) := by decide +kernel
theorem dX5_thinOut_8 : decode cX5_thinOut 8 = .ok (.iconst 0, 1) := by decide +kernel
theorem dX5_thinOut_9 : decode cX5_thinOut 9 = .ok (.istore_n 1, 1) := by decide +kernel
theorem dX5_thinOut_10 : decode cX5_thinOut 10 = .ok (.iconst 0, 1) := by decide +kernel
theorem dX5_thinOut_11 : decode cX5_thinOut 11 = .ok (.istore_n 2, 1) := by decide +kernel
theorem dX5_thinOut_12 : decode cX5_thinOut 12 = .ok (.iload_n 2, 1) := by decide +kernel
theorem dX5_thinOut_13 : decode cX5_thinOut 13 = .ok (.sipush 326, 3) := by decide +kernel
theorem dX5_thinOut_16 : decode cX5_thinOut 16 = .ok (.if_icmp .ge 52, 3) := by decide +kernel
theorem dX5_thinOut_19 : decode cX5_thinOut 19 = .ok (.aload_n 0, 1) := by decide +kernel
theorem dX5_thinOut_20 : decode cX5_thinOut 20 = .ok (.getfield 30, 3) := by decide +kernel
theorem dX5_thinOut_23 : decode cX5_thinOut 23 = .ok (.iload_n 2, 1) := by decide +kernel
theorem dX5_thinOut_24 : decode cX5_thinOut 24 = .ok (.invokestatic 100, 3) := by decide +kernel
theorem dX5_thinOut_27 : decode cX5_thinOut 27 = .ok (.ifCond .eq 35, 3) := by decide +kernel
theorem dX5_thinOut_30 : decode cX5_thinOut 30 = .ok (.aload_n 0, 1) := by decide +kernel
theorem dX5_thinOut_31 : decode cX5_thinOut 31 = .ok (.iload_n 2, 1) := by decide +kernel
theorem dX5_thinOut_32 : decode cX5_thinOut 32 = .ok (.invokevirtual 104, 3) := by decide +kernel
theorem dX5_thinOut_35 : decode cX5_thinOut 35 = .ok (.ifCond .ne 27, 3) := by decide +kernel
theorem dX5_thinOut_38 : decode cX5_thinOut 38 = .ok (.aload_n 0, 1) := by decide +kernel
theorem dX5_thinOut_39 : decode cX5_thinOut 39 = .ok (.getfield 30, 3) := by decide +kernel
theorem dX5_thinOut_42 : decode cX5_thinOut 42 = .ok (.iload_n 2, 1) := by decide +kernel
theorem dX5_thinOut_43 : decode cX5_thinOut 43 = .ok (.bipush 64, 2) := by decide +kernel
theorem dX5_thinOut_45 : decode cX5_thinOut 45 = .ok (.idiv, 1) := by decide +kernel
theorem dX5_thinOut_46 : decode cX5_thinOut 46 = .ok (.dup2, 1) := by decide +kernel
theorem dX5_thinOut_47 : decode cX5_thinOut 47 = .ok (.laload, 1) := by decide +kernel
theorem dX5_thinOut_48 : decode cX5_thinOut 48 = .ok (.lconst 1, 1) := by decide +kernel
theorem dX5_thinOut_49 : decode cX5_thinOut 49 = .ok (.iload_n 2, 1) := by decide +kernel
theorem dX5_thinOut_50 : decode cX5_thinOut 50 = .ok (.bipush 64, 2) := by decide +kernel
theorem dX5_thinOut_52 : decode cX5_thinOut 52 = .ok (.irem, 1) := by decide +kernel
theorem dX5_thinOut_53 : decode cX5_thinOut 53 = .ok (.lshl, 1) := by decide +kernel
theorem dX5_thinOut_54 : decode cX5_thinOut 54 = .ok (.ldc2_w 108, 3) := by decide +kernel
theorem dX5_thinOut_57 : decode cX5_thinOut 57 = .ok (.lxor, 1) := by decide +kernel
theorem dX5_thinOut_58 : decode cX5_thinOut 58 = .ok (.land, 1) := by decide +kernel
theorem dX5_thinOut_59 : decode cX5_thinOut 59 = .ok (.lastore, 1) := by decide +kernel
theorem dX5_thinOut_60 : decode cX5_thinOut 60 = .ok (.iconst 1, 1) := by decide +kernel
theorem dX5_thinOut_61 : decode cX5_thinOut 61 = .ok (.istore_n 1, 1) := by decide +kernel
theorem dX5_thinOut_62 : decode cX5_thinOut 62 = .ok (.iinc 2 1, 3) := by decide +kernel
theorem dX5_thinOut_65 : decode cX5_thinOut 65 = .ok (.goto (-53), 3) := by decide +kernel
theorem dX5_thinOut_68 : decode cX5_thinOut 68 = .ok (.iconst 0, 1) := by decide +kernel
theorem dX5_thinOut_69 : decode cX5_thinOut 69 = .ok (.istore_n 2, 1) := by decide +kernel
theorem dX5_thinOut_70 : decode cX5_thinOut 70 = .ok (.iload_n 2, 1) := by decide +kernel
theorem dX5_thinOut_71 : decode cX5_thinOut 71 = .ok (.bipush 6, 2) := by decide +kernel
theorem dX5_thinOut_73 : decode cX5_thinOut 73 = .ok (.if_icmp .ge 56, 3) := by decide +kernel
theorem dX5_thinOut_76 : decode cX5_thinOut 76 = .ok (.iload_n 1, 1) := by decide +kernel
theorem dX5_thinOut_77 : decode cX5_thinOut 77 = .ok (.ifCond .ne 25, 3) := by decide +kernel
theorem dX5_thinOut_80 : decode cX5_thinOut 80 = .ok (.aload_n 0, 1) := by decide +kernel
theorem dX5_thinOut_81 : decode cX5_thinOut 81 = .ok (.getfield 30, 3) := by decide +kernel
theorem dX5_thinOut_84 : decode cX5_thinOut 84 = .ok (.iload_n 2, 1) := by decide +kernel
theorem dX5_thinOut_85 : decode cX5_thinOut 85 = .ok (.laload, 1) := by decide +kernel
theorem dX5_thinOut_86 : decode cX5_thinOut 86 = .ok (.aload_n 0, 1) := by decide +kernel
theorem dX5_thinOut_87 : decode cX5_thinOut 87 = .ok (.getfield 39, 3) := by decide +kernel
theorem dX5_thinOut_90 : decode cX5_thinOut 90 = .ok (.iload_n 2, 1) := by decide +kernel
theorem dX5_thinOut_91 : decode cX5_thinOut 91 = .ok (.laload, 1) := by decide +kernel
theorem dX5_thinOut_92 : decode cX5_thinOut 92 = .ok (.ldc2_w 108, 3) := by decide +kernel
theorem dX5_thinOut_95 : decode cX5_thinOut 95 = .ok (.lxor, 1) := by decide +kernel
theorem dX5_thinOut_96 : decode cX5_thinOut 96 = .ok (.land, 1) := by decide +kernel
theorem dX5_thinOut_97 : decode cX5_thinOut 97 = .ok (.lconst 0, 1) := by decide +kernel
theorem dX5_thinOut_98 : decode cX5_thinOut 98 = .ok (.lcmp, 1) := by decide +kernel
theorem dX5_thinOut_99 : decode cX5_thinOut 99 = .ok (.ifCond .eq 7, 3) := by decide +kernel
theorem dX5_thinOut_102 : decode cX5_thinOut 102 = .ok (.iconst 1, 1) := by decide +kernel
theorem dX5_thinOut_103 : decode cX5_thinOut 103 = .ok (.goto 4, 3) := by decide +kernel
theorem dX5_thinOut_106 : decode cX5_thinOut 106 = .ok (.iconst 0, 1) := by decide +kernel
theorem dX5_thinOut_107 : decode cX5_thinOut 107 = .ok (.istore_n 1, 1) := by decide +kernel
theorem dX5_thinOut_108 : decode cX5_thinOut 108 = .ok (.aload_n 0, 1) := by decide +kernel
theorem dX5_thinOut_109 : decode cX5_thinOut 109 = .ok (.getfield 30, 3) := by decide +kernel
theorem dX5_thinOut_112 : decode cX5_thinOut 112 = .ok (.iload_n 2, 1) := by decide +kernel
theorem dX5_thinOut_113 : decode cX5_thinOut 113 = .ok (.dup2, 1) := by decide +kernel
theorem dX5_thinOut_114 : decode cX5_thinOut 114 = .ok (.laload, 1) := by decide +kernel
theorem dX5_thinOut_115 : decode cX5_thinOut 115 = .ok (.aload_n 0, 1) := by decide +kernel
theorem dX5_thinOut_116 : decode cX5_thinOut 116 = .ok (.getfield 39, 3) := by decide +kernel
theorem dX5_thinOut_119 : decode cX5_thinOut 119 = .ok (.iload_n 2, 1) := by decide +kernel
theorem dX5_thinOut_120 : decode cX5_thinOut 120 = .ok (.laload, 1) := by decide +kernel
theorem dX5_thinOut_121 : decode cX5_thinOut 121 = .ok (.land, 1) := by decide +kernel
theorem dX5_thinOut_122 : decode cX5_thinOut 122 = .ok (.lastore, 1) := by decide +kernel
theorem dX5_thinOut_123 : decode cX5_thinOut 123 = .ok (.iinc 2 1, 3) := by decide +kernel
theorem dX5_thinOut_126 : decode cX5_thinOut 126 = .ok (.goto (-56), 3) := by decide +kernel
theorem dX5_thinOut_129 : decode cX5_thinOut 129 = .ok (.iload_n 1, 1) := by decide +kernel
theorem dX5_thinOut_130 : decode cX5_thinOut 130 = .ok (.ireturn, 1) := by decide +kernel
theorem dX5_has_0 : decode cX5_has 0 = .ok (.aload_n 0, 1) := by decide +kernel
theorem dX5_has_1 : decode cX5_has 1 = .ok (.iload_n 1, 1) := by decide +kernel
theorem dX5_has_2 : decode cX5_has 2 = .ok (.bipush 64, 2) := by decide +kernel
theorem dX5_has_4 : decode cX5_has 4 = .ok (.idiv, 1) := by decide +kernel
theorem dX5_has_5 : decode cX5_has 5 = .ok (.laload, 1) := by decide +kernel
theorem dX5_has_6 : decode cX5_has 6 = .ok (.iload_n 1, 1) := by decide +kernel
theorem dX5_has_7 : decode cX5_has 7 = .ok (.bipush 64, 2) := by decide +kernel
theorem dX5_has_9 : decode cX5_has 9 = .ok (.irem, 1) := by decide +kernel
theorem dX5_has_10 : decode cX5_has 10 = .ok (.lushr, 1) := by decide +kernel
theorem dX5_has_11 : decode cX5_has 11 = .ok (.lconst 1, 1) := by decide +kernel
theorem dX5_has_12 : decode cX5_has 12 = .ok (.land, 1) := by decide +kernel
theorem dX5_has_13 : decode cX5_has 13 = .ok (.lconst 0, 1) := by decide +kernel
theorem dX5_has_14 : decode cX5_has 14 = .ok (.lcmp, 1) := by decide +kernel
theorem dX5_has_15 : decode cX5_has 15 = .ok (.ifCond .eq 7, 3) := by decide +kernel
theorem dX5_has_18 : decode cX5_has 18 = .ok (.iconst 1, 1) := by decide +kernel
theorem dX5_has_19 : decode cX5_has 19 = .ok (.goto 4, 3) := by decide +kernel
theorem dX5_has_22 : decode cX5_has 22 = .ok (.iconst 0, 1) := by decide +kernel
theorem dX5_has_23 : decode cX5_has 23 = .ok (.ireturn, 1) := by decide +kernel
theorem dX5_join_0 : decode cX5_join 0 = .ok (.iload_n 1, 1) := by decide +kernel
theorem dX5_join_1 : decode cX5_join 1 = .ok (.ifCond .lt 10, 3) := by decide +kernel
theorem dX5_join_4 : decode cX5_join 4 = .ok (.iload_n 1, 1) := by decide +kernel
theorem dX5_join_5 : decode cX5_join 5 = .ok (.sipush 326, 3) := by decide +kernel
theorem dX5_join_8 : decode cX5_join 8 = .ok (.if_icmp .lt 5, 3) := by decide +kernel
theorem dX5_join_11 : decode cX5_join 11 = .ok (.iconst 0, 1) := by decide +kernel
theorem dX5_join_12 : decode cX5_join 12 = .ok (.ireturn, 1) := by decide +kernel
theorem dX5_join_13 : decode cX5_join 13 = .ok (.lconst 0, 1) := by decide +kernel
theorem dX5_join_14 : decode cX5_join 14 = .ok (.lstore_n 2, 1) := by decide +kernel
theorem dX5_join_15 : decode cX5_join 15 = .ok (.iconst 0, 1) := by decide +kernel
theorem dX5_join_16 : decode cX5_join 16 = .ok (.istore 4, 2) := by decide +kernel
theorem dX5_join_18 : decode cX5_join 18 = .ok (.iload 4, 2) := by decide +kernel
theorem dX5_join_20 : decode cX5_join 20 = .ok (.bipush 6, 2) := by decide +kernel
theorem dX5_join_22 : decode cX5_join 22 = .ok (.if_icmp .ge 48, 3) := by decide +kernel
theorem dX5_join_25 : decode cX5_join 25 = .ok (.aload_n 0, 1) := by decide +kernel
theorem dX5_join_26 : decode cX5_join 26 = .ok (.getfield 26, 3) := by decide +kernel
theorem dX5_join_29 : decode cX5_join 29 = .ok (.iload_n 1, 1) := by decide +kernel
theorem dX5_join_30 : decode cX5_join 30 = .ok (.bipush 6, 2) := by decide +kernel
theorem dX5_join_32 : decode cX5_join 32 = .ok (.imul, 1) := by decide +kernel
theorem dX5_join_33 : decode cX5_join 33 = .ok (.iload 4, 2) := by decide +kernel
theorem dX5_join_35 : decode cX5_join 35 = .ok (.iadd, 1) := by decide +kernel
theorem dX5_join_36 : decode cX5_join 36 = .ok (.laload, 1) := by decide +kernel
theorem dX5_join_37 : decode cX5_join 37 = .ok (.aload_n 0, 1) := by decide +kernel
theorem dX5_join_38 : decode cX5_join 38 = .ok (.getfield 30, 3) := by decide +kernel
theorem dX5_join_41 : decode cX5_join 41 = .ok (.iload 4, 2) := by decide +kernel
theorem dX5_join_43 : decode cX5_join 43 = .ok (.laload, 1) := by decide +kernel
theorem dX5_join_44 : decode cX5_join 44 = .ok (.land, 1) := by decide +kernel
theorem dX5_join_45 : decode cX5_join 45 = .ok (.lstore 5, 2) := by decide +kernel
theorem dX5_join_47 : decode cX5_join 47 = .ok (.aload_n 0, 1) := by decide +kernel
theorem dX5_join_48 : decode cX5_join 48 = .ok (.getfield 39, 3) := by decide +kernel
theorem dX5_join_51 : decode cX5_join 51 = .ok (.iload 4, 2) := by decide +kernel
theorem dX5_join_53 : decode cX5_join 53 = .ok (.dup2, 1) := by decide +kernel
theorem dX5_join_54 : decode cX5_join 54 = .ok (.laload, 1) := by decide +kernel
theorem dX5_join_55 : decode cX5_join 55 = .ok (.lload 5, 2) := by decide +kernel
theorem dX5_join_57 : decode cX5_join 57 = .ok (.lor, 1) := by decide +kernel
theorem dX5_join_58 : decode cX5_join 58 = .ok (.lastore, 1) := by decide +kernel
theorem dX5_join_59 : decode cX5_join 59 = .ok (.lload_n 2, 1) := by decide +kernel
theorem dX5_join_60 : decode cX5_join 60 = .ok (.lload 5, 2) := by decide +kernel
theorem dX5_join_62 : decode cX5_join 62 = .ok (.lor, 1) := by decide +kernel
theorem dX5_join_63 : decode cX5_join 63 = .ok (.lstore_n 2, 1) := by decide +kernel
theorem dX5_join_64 : decode cX5_join 64 = .ok (.iinc 4 1, 3) := by decide +kernel
theorem dX5_join_67 : decode cX5_join 67 = .ok (.goto (-49), 3) := by decide +kernel
theorem dX5_join_70 : decode cX5_join 70 = .ok (.lload_n 2, 1) := by decide +kernel
theorem dX5_join_71 : decode cX5_join 71 = .ok (.lconst 0, 1) := by decide +kernel
theorem dX5_join_72 : decode cX5_join 72 = .ok (.lcmp, 1) := by decide +kernel
theorem dX5_join_73 : decode cX5_join 73 = .ok (.ifCond .eq 7, 3) := by decide +kernel
theorem dX5_join_76 : decode cX5_join 76 = .ok (.iconst 1, 1) := by decide +kernel
theorem dX5_join_77 : decode cX5_join 77 = .ok (.goto 4, 3) := by decide +kernel
theorem dX5_join_80 : decode cX5_join 80 = .ok (.iconst 0, 1) := by decide +kernel
theorem dX5_join_81 : decode cX5_join 81 = .ok (.ireturn, 1) := by decide +kernel
theorem dX5_measure_0 : decode cX5_measure 0 = .ok (.iconst 0, 1) := by decide +kernel
theorem dX5_measure_1 : decode cX5_measure 1 = .ok (.istore_n 2, 1) := by decide +kernel
theorem dX5_measure_2 : decode cX5_measure 2 = .ok (.iload_n 2, 1) := by decide +kernel
theorem dX5_measure_3 : decode cX5_measure 3 = .ok (.aload_n 1, 1) := by decide +kernel
theorem dX5_measure_4 : decode cX5_measure 4 = .ok (.invokevirtual 51, 3) := by decide +kernel
theorem dX5_measure_7 : decode cX5_measure 7 = .ok (.if_icmp .ge 100, 3) := by decide +kernel
theorem dX5_measure_10 : decode cX5_measure 10 = .ok (.aload_n 0, 1) := by decide +kernel
theorem dX5_measure_11 : decode cX5_measure 11 = .ok (.getfield 30, 3) := by decide +kernel
theorem dX5_measure_14 : decode cX5_measure 14 = .ok (.iload_n 2, 1) := by decide +kernel
theorem dX5_measure_15 : decode cX5_measure 15 = .ok (.invokestatic 100, 3) := by decide +kernel
theorem dX5_measure_18 : decode cX5_measure 18 = .ok (.ifCond .eq 11, 3) := by decide +kernel
theorem dX5_measure_21 : decode cX5_measure 21 = .ok (.aload_n 0, 1) := by decide +kernel
theorem dX5_measure_22 : decode cX5_measure 22 = .ok (.iload_n 2, 1) := by decide +kernel
theorem dX5_measure_23 : decode cX5_measure 23 = .ok (.invokevirtual 110, 3) := by decide +kernel
theorem dX5_measure_26 : decode cX5_measure 26 = .ok (.goto 4, 3) := by decide +kernel
theorem dX5_measure_29 : decode cX5_measure 29 = .ok (.iconst 0, 1) := by decide +kernel
theorem dX5_measure_30 : decode cX5_measure 30 = .ok (.istore_n 3, 1) := by decide +kernel
theorem dX5_measure_31 : decode cX5_measure 31 = .ok (.iload_n 3, 1) := by decide +kernel
theorem dX5_measure_32 : decode cX5_measure 32 = .ok (.ifCond .le 69, 3) := by decide +kernel
theorem dX5_measure_35 : decode cX5_measure 35 = .ok (.aload_n 0, 1) := by decide +kernel
theorem dX5_measure_36 : decode cX5_measure 36 = .ok (.dup, 1) := by decide +kernel
theorem dX5_measure_37 : decode cX5_measure 37 = .ok (.getfield 15, 3) := by decide +kernel
theorem dX5_measure_40 : decode cX5_measure 40 = .ok (.iconst 1, 1) := by decide +kernel
theorem dX5_measure_41 : decode cX5_measure 41 = .ok (.iadd, 1) := by decide +kernel
theorem dX5_measure_42 : decode cX5_measure 42 = .ok (.putfield 15, 3) := by decide +kernel
theorem dX5_measure_45 : decode cX5_measure 45 = .ok (.aload_n 0, 1) := by decide +kernel
theorem dX5_measure_46 : decode cX5_measure 46 = .ok (.aload_n 0, 1) := by decide +kernel
theorem dX5_measure_47 : decode cX5_measure 47 = .ok (.getfield 9, 3) := by decide +kernel
theorem dX5_measure_50 : decode cX5_measure 50 = .ok (.ifCond .ne 7, 3) := by decide +kernel
theorem dX5_measure_53 : decode cX5_measure 53 = .ok (.iload_n 3, 1) := by decide +kernel
theorem dX5_measure_54 : decode cX5_measure 54 = .ok (.goto 11, 3) := by decide +kernel
theorem dX5_measure_57 : decode cX5_measure 57 = .ok (.aload_n 0, 1) := by decide +kernel
theorem dX5_measure_58 : decode cX5_measure 58 = .ok (.getfield 9, 3) := by decide +kernel
theorem dX5_measure_61 : decode cX5_measure 61 = .ok (.iload_n 3, 1) := by decide +kernel
theorem dX5_measure_62 : decode cX5_measure 62 = .ok (.invokestatic 113, 3) := by decide +kernel
theorem dX5_measure_65 : decode cX5_measure 65 = .ok (.putfield 9, 3) := by decide +kernel
theorem dX5_measure_68 : decode cX5_measure 68 = .ok (.aload_n 0, 1) := by decide +kernel
theorem dX5_measure_69 : decode cX5_measure 69 = .ok (.aload_n 0, 1) := by decide +kernel
theorem dX5_measure_70 : decode cX5_measure 70 = .ok (.getfield 18, 3) := by decide +kernel
theorem dX5_measure_73 : decode cX5_measure 73 = .ok (.bipush (-4), 2) := by decide +kernel
theorem dX5_measure_75 : decode cX5_measure 75 = .ok (.if_icmp .ne 11, 3) := by decide +kernel
theorem dX5_measure_78 : decode cX5_measure 78 = .ok (.aload_n 1, 1) := by decide +kernel
theorem dX5_measure_79 : decode cX5_measure 79 = .ok (.iload_n 2, 1) := by decide +kernel
theorem dX5_measure_80 : decode cX5_measure 80 = .ok (.invokevirtual 118, 3) := by decide +kernel
theorem dX5_measure_83 : decode cX5_measure 83 = .ok (.goto 15, 3) := by decide +kernel
theorem dX5_measure_86 : decode cX5_measure 86 = .ok (.aload_n 0, 1) := by decide +kernel
theorem dX5_measure_87 : decode cX5_measure 87 = .ok (.getfield 18, 3) := by decide +kernel
theorem dX5_measure_90 : decode cX5_measure 90 = .ok (.aload_n 1, 1) := by decide +kernel
theorem dX5_measure_91 : decode cX5_measure 91 = .ok (.iload_n 2, 1) := by decide +kernel
theorem dX5_measure_92 : decode cX5_measure 92 = .ok (.invokevirtual 118, 3) := by decide +kernel
theorem dX5_measure_95 : decode cX5_measure 95 = .ok (.invokestatic 113, 3) := by decide +kernel
theorem dX5_measure_98 : decode cX5_measure 98 = .ok (.putfield 18, 3) := by decide +kernel
theorem dX5_measure_101 : decode cX5_measure 101 = .ok (.iinc 2 1, 3) := by decide +kernel
theorem dX5_measure_104 : decode cX5_measure 104 = .ok (.goto (-102), 3) := by decide +kernel
theorem dX5_measure_107 : decode cX5_measure 107 = .ok (.return_, 1) := by decide +kernel
