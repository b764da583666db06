theorem dX10_chooseAnew_30 : decode cX10_chooseAnew 30 = .ok (.invokevirtual 149, 3) := by decide +kernel
theorem dX10_chooseAnew_33 : decode cX10_chooseAnew 33 = .ok (.if_icmp .ne 5, 3) := by decide +kernel
theorem dX10_chooseAnew_36 : decode cX10_chooseAnew 36 = .ok (.iconst 0, 1) := by decide +kernel
theorem dX10_chooseAnew_37 : decode cX10_chooseAnew 37 = .ok (.ireturn, 1) := by decide +kernel
theorem dX10_chooseAnew_38 : decode cX10_chooseAnew 38 = .ok (.aload_n 0, 1) := by decide +kernel
theorem dX10_chooseAnew_39 : decode cX10_chooseAnew 39 = .ok (.getfield 10, 3) := by decide +kernel
theorem dX10_chooseAnew_42 : decode cX10_chooseAnew 42 = .ok (.iload_n 1, 1) := by decide +kernel
theorem dX10_chooseAnew_43 : decode cX10_chooseAnew 43 = .ok (.iload_n 2, 1) := by decide +kernel
theorem dX10_chooseAnew_44 : decode cX10_chooseAnew 44 = .ok (.invokevirtual 347, 3) := by decide +kernel
theorem dX10_chooseAnew_47 : decode cX10_chooseAnew 47 = .ok (.iconst 1, 1) := by decide +kernel
theorem dX10_chooseAnew_48 : decode cX10_chooseAnew 48 = .ok (.ireturn, 1) := by decide +kernel
theorem dX10_driftOnce_0 : decode cX10_driftOnce 0 = .ok (.aload_n 0, 1) := by decide +kernel
theorem dX10_driftOnce_1 : decode cX10_driftOnce 1 = .ok (.getfield 10, 3) := by decide +kernel
theorem dX10_driftOnce_4 : decode cX10_driftOnce 4 = .ok (.invokevirtual 270, 3) := by decide +kernel
theorem dX10_driftOnce_7 : decode cX10_driftOnce 7 = .ok (.ldc_w 350, 3) := by decide +kernel
theorem dX10_driftOnce_10 : decode cX10_driftOnce 10 = .ok (.imul, 1) := by decide +kernel
theorem dX10_driftOnce_11 : decode cX10_driftOnce 11 = .ok (.sipush 12345, 3) := by decide +kernel
theorem dX10_driftOnce_14 : decode cX10_driftOnce 14 = .ok (.iadd, 1) := by decide +kernel
theorem dX10_driftOnce_15 : decode cX10_driftOnce 15 = .ok (.ldc_w 351, 3) := by decide +kernel
theorem dX10_driftOnce_18 : decode cX10_driftOnce 18 = .ok (.iand, 1) := by decide +kernel
theorem dX10_driftOnce_19 : decode cX10_driftOnce 19 = .ok (.istore_n 1, 1) := by decide +kernel
theorem dX10_driftOnce_20 : decode cX10_driftOnce 20 = .ok (.aload_n 0, 1) := by decide +kernel
theorem dX10_driftOnce_21 : decode cX10_driftOnce 21 = .ok (.getfield 10, 3) := by decide +kernel
theorem dX10_driftOnce_24 : decode cX10_driftOnce 24 = .ok (.iload_n 1, 1) := by decide +kernel
theorem dX10_driftOnce_25 : decode cX10_driftOnce 25 = .ok (.invokevirtual 273, 3) := by decide +kernel
theorem dX10_driftOnce_28 : decode cX10_driftOnce 28 = .ok (.iconst 2, 1) := by decide +kernel
theorem dX10_driftOnce_29 : decode cX10_driftOnce 29 = .ok (.aload_n 0, 1) := by decide +kernel
theorem dX10_driftOnce_30 : decode cX10_driftOnce 30 = .ok (.getfield 10, 3) := by decide +kernel
theorem dX10_driftOnce_33 : decode cX10_driftOnce 33 = .ok (.invokevirtual 135, 3) := by decide +kernel
theorem dX10_driftOnce_36 : decode cX10_driftOnce 36 = .ok (.invokestatic 352, 3) := by decide +kernel
theorem dX10_driftOnce_39 : decode cX10_driftOnce 39 = .ok (.istore_n 2, 1) := by decide +kernel
theorem dX10_driftOnce_40 : decode cX10_driftOnce 40 = .ok (.iload_n 1, 1) := by decide +kernel
theorem dX10_driftOnce_41 : decode cX10_driftOnce 41 = .ok (.ldc_w 357, 3) := by decide +kernel
theorem dX10_driftOnce_44 : decode cX10_driftOnce 44 = .ok (.idiv, 1) := by decide +kernel
theorem dX10_driftOnce_45 : decode cX10_driftOnce 45 = .ok (.istore_n 3, 1) := by decide +kernel
theorem dX10_driftOnce_46 : decode cX10_driftOnce 46 = .ok (.iload_n 3, 1) := by decide +kernel
theorem dX10_driftOnce_47 : decode cX10_driftOnce 47 = .ok (.bipush 8, 2) := by decide +kernel
theorem dX10_driftOnce_49 : decode cX10_driftOnce 49 = .ok (.idiv, 1) := by decide +kernel
theorem dX10_driftOnce_50 : decode cX10_driftOnce 50 = .ok (.istore 4, 2) := by decide +kernel
theorem dX10_driftOnce_52 : decode cX10_driftOnce 52 = .ok (.iload 4, 2) := by decide +kernel
theorem dX10_driftOnce_54 : decode cX10_driftOnce 54 = .ok (.iload_n 2, 1) := by decide +kernel
theorem dX10_driftOnce_55 : decode cX10_driftOnce 55 = .ok (.irem, 1) := by decide +kernel
theorem dX10_driftOnce_56 : decode cX10_driftOnce 56 = .ok (.istore 5, 2) := by decide +kernel
theorem dX10_driftOnce_58 : decode cX10_driftOnce 58 = .ok (.iload 4, 2) := by decide +kernel
theorem dX10_driftOnce_60 : decode cX10_driftOnce 60 = .ok (.bipush 8, 2) := by decide +kernel
theorem dX10_driftOnce_62 : decode cX10_driftOnce 62 = .ok (.idiv, 1) := by decide +kernel
theorem dX10_driftOnce_63 : decode cX10_driftOnce 63 = .ok (.iload_n 2, 1) := by decide +kernel
theorem dX10_driftOnce_64 : decode cX10_driftOnce 64 = .ok (.irem, 1) := by decide +kernel
theorem dX10_driftOnce_65 : decode cX10_driftOnce 65 = .ok (.istore 6, 2) := by decide +kernel
theorem dX10_driftOnce_67 : decode cX10_driftOnce 67 = .ok (.iload 4, 2) := by decide +kernel
theorem dX10_driftOnce_69 : decode cX10_driftOnce 69 = .ok (.bipush 64, 2) := by decide +kernel
theorem dX10_driftOnce_71 : decode cX10_driftOnce 71 = .ok (.idiv, 1) := by decide +kernel
theorem dX10_driftOnce_72 : decode cX10_driftOnce 72 = .ok (.istore 7, 2) := by decide +kernel
theorem dX10_driftOnce_74 : decode cX10_driftOnce 74 = .ok (.iload_n 3, 1) := by decide +kernel
theorem dX10_driftOnce_75 : decode cX10_driftOnce 75 = .ok (.bipush 8, 2) := by decide +kernel
theorem dX10_driftOnce_77 : decode cX10_driftOnce 77 = .ok (.irem, 1) := by decide +kernel
theorem dX10_driftOnce_78 : decode cX10_driftOnce 78 = .ok (.tableswitch 68 3 7 #[34, 68, 50, 50, 58], 34) := by decide +kernel
theorem dX10_driftOnce_112 : decode cX10_driftOnce 112 = .ok (.aload_n 0, 1) := by decide +kernel
theorem dX10_driftOnce_113 : decode cX10_driftOnce 113 = .ok (.getfield 10, 3) := by decide +kernel
theorem dX10_driftOnce_116 : decode cX10_driftOnce 116 = .ok (.iload 5, 2) := by decide +kernel
theorem dX10_driftOnce_118 : decode cX10_driftOnce 118 = .ok (.iload 7, 2) := by decide +kernel
theorem dX10_driftOnce_120 : decode cX10_driftOnce 120 = .ok (.iconst 4, 1) := by decide +kernel
theorem dX10_driftOnce_121 : decode cX10_driftOnce 121 = .ok (.irem, 1) := by decide +kernel
theorem dX10_driftOnce_122 : decode cX10_driftOnce 122 = .ok (.invokevirtual 123, 3) := by decide +kernel
theorem dX10_driftOnce_125 : decode cX10_driftOnce 125 = .ok (.goto 42, 3) := by decide +kernel
theorem dX10_driftOnce_128 : decode cX10_driftOnce 128 = .ok (.aload_n 0, 1) := by decide +kernel
theorem dX10_driftOnce_129 : decode cX10_driftOnce 129 = .ok (.invokevirtual 200, 3) := by decide +kernel
theorem dX10_driftOnce_132 : decode cX10_driftOnce 132 = .ok (.pop, 1) := by decide +kernel
theorem dX10_driftOnce_133 : decode cX10_driftOnce 133 = .ok (.goto 34, 3) := by decide +kernel
theorem dX10_driftOnce_136 : decode cX10_driftOnce 136 = .ok (.aload_n 0, 1) := by decide +kernel
theorem dX10_driftOnce_137 : decode cX10_driftOnce 137 = .ok (.iload 5, 2) := by decide +kernel
theorem dX10_driftOnce_139 : decode cX10_driftOnce 139 = .ok (.invokevirtual 203, 3) := by decide +kernel
theorem dX10_driftOnce_142 : decode cX10_driftOnce 142 = .ok (.pop, 1) := by decide +kernel
theorem dX10_driftOnce_143 : decode cX10_driftOnce 143 = .ok (.goto 24, 3) := by decide +kernel
theorem dX10_driftOnce_146 : decode cX10_driftOnce 146 = .ok (.iload 5, 2) := by decide +kernel
theorem dX10_driftOnce_148 : decode cX10_driftOnce 148 = .ok (.iload 6, 2) := by decide +kernel
theorem dX10_driftOnce_150 : decode cX10_driftOnce 150 = .ok (.if_icmp .eq 17, 3) := by decide +kernel
theorem dX10_driftOnce_153 : decode cX10_driftOnce 153 = .ok (.aload_n 0, 1) := by decide +kernel
theorem dX10_driftOnce_154 : decode cX10_driftOnce 154 = .ok (.iload_n 3, 1) := by decide +kernel
theorem dX10_driftOnce_155 : decode cX10_driftOnce 155 = .ok (.bipush 8, 2) := by decide +kernel
theorem dX10_driftOnce_157 : decode cX10_driftOnce 157 = .ok (.irem, 1) := by decide +kernel
theorem dX10_driftOnce_158 : decode cX10_driftOnce 158 = .ok (.iload 5, 2) := by decide +kernel
theorem dX10_driftOnce_160 : decode cX10_driftOnce 160 = .ok (.iload 6, 2) := by decide +kernel
theorem dX10_driftOnce_162 : decode cX10_driftOnce 162 = .ok (.iload 7, 2) := by decide +kernel
theorem dX10_driftOnce_164 : decode cX10_driftOnce 164 = .ok (.invokevirtual 358, 3) := by decide +kernel
theorem dX10_driftOnce_167 : decode cX10_driftOnce 167 = .ok (.return_, 1) := by decide +kernel
theorem dX10_driftPair_0 : decode cX10_driftPair 0 = .ok (.iload_n 1, 1) := by decide +kernel
theorem dX10_driftPair_1 : decode cX10_driftPair 1 = .ok (.tableswitch 84 0 2 #[27, 43, 67], 27) := by decide +kernel
theorem dX10_driftPair_28 : decode cX10_driftPair 28 = .ok (.aload_n 0, 1) := by decide +kernel
theorem dX10_driftPair_29 : decode cX10_driftPair 29 = .ok (.getfield 10, 3) := by decide +kernel
theorem dX10_driftPair_32 : decode cX10_driftPair 32 = .ok (.iload_n 2, 1) := by decide +kernel
theorem dX10_driftPair_33 : decode cX10_driftPair 33 = .ok (.iload_n 3, 1) := by decide +kernel
theorem dX10_driftPair_34 : decode cX10_driftPair 34 = .ok (.iload 4, 2) := by decide +kernel
theorem dX10_driftPair_36 : decode cX10_driftPair 36 = .ok (.iconst 4, 1) := by decide +kernel
theorem dX10_driftPair_37 : decode cX10_driftPair 37 = .ok (.irem, 1) := by decide +kernel
theorem dX10_driftPair_38 : decode cX10_driftPair 38 = .ok (.invokevirtual 101, 3) := by decide +kernel
theorem dX10_driftPair_41 : decode cX10_driftPair 41 = .ok (.goto 64, 3) := by decide +kernel
theorem dX10_driftPair_44 : decode cX10_driftPair 44 = .ok (.aload_n 0, 1) := by decide +kernel
theorem dX10_driftPair_45 : decode cX10_driftPair 45 = .ok (.getfield 10, 3) := by decide +kernel
theorem dX10_driftPair_48 : decode cX10_driftPair 48 = .ok (.iload_n 2, 1) := by decide +kernel
theorem dX10_driftPair_49 : decode cX10_driftPair 49 = .ok (.iload_n 3, 1) := by decide +kernel
theorem dX10_driftPair_50 : decode cX10_driftPair 50 = .ok (.invokevirtual 90, 3) := by decide +kernel
theorem dX10_driftPair_53 : decode cX10_driftPair 53 = .ok (.ifCond .eq 52, 3) := by decide +kernel
theorem dX10_driftPair_56 : decode cX10_driftPair 56 = .ok (.aload_n 0, 1) := by decide +kernel
theorem dX10_driftPair_57 : decode cX10_driftPair 57 = .ok (.getfield 10, 3) := by decide +kernel
theorem dX10_driftPair_60 : decode cX10_driftPair 60 = .ok (.iload_n 2, 1) := by decide +kernel
theorem dX10_driftPair_61 : decode cX10_driftPair 61 = .ok (.iload_n 3, 1) := by decide +kernel
theorem dX10_driftPair_62 : decode cX10_driftPair 62 = .ok (.invokevirtual 105, 3) := by decide +kernel
theorem dX10_driftPair_65 : decode cX10_driftPair 65 = .ok (.goto 40, 3) := by decide +kernel
theorem dX10_driftPair_68 : decode cX10_driftPair 68 = .ok (.aload_n 0, 1) := by decide +kernel
theorem dX10_driftPair_69 : decode cX10_driftPair 69 = .ok (.getfield 10, 3) := by decide +kernel
theorem dX10_driftPair_72 : decode cX10_driftPair 72 = .ok (.iload_n 2, 1) := by decide +kernel
theorem dX10_driftPair_73 : decode cX10_driftPair 73 = .ok (.iload_n 3, 1) := by decide +kernel
theorem dX10_driftPair_74 : decode cX10_driftPair 74 = .ok (.iload 4, 2) := by decide +kernel
theorem dX10_driftPair_76 : decode cX10_driftPair 76 = .ok (.bipush 10, 2) := by decide +kernel
theorem dX10_driftPair_78 : decode cX10_driftPair 78 = .ok (.irem, 1) := by decide +kernel
theorem dX10_driftPair_79 : decode cX10_driftPair 79 = .ok (.invokevirtual 112, 3) := by decide +kernel
theorem dX10_driftPair_82 : decode cX10_driftPair 82 = .ok (.goto 23, 3) := by decide +kernel
theorem dX10_driftPair_85 : decode cX10_driftPair 85 = .ok (.aload_n 0, 1) := by decide +kernel
theorem dX10_driftPair_86 : decode cX10_driftPair 86 = .ok (.getfield 10, 3) := by decide +kernel
theorem dX10_driftPair_89 : decode cX10_driftPair 89 = .ok (.iload_n 2, 1) := by decide +kernel
theorem dX10_driftPair_90 : decode cX10_driftPair 90 = .ok (.aload_n 0, 1) := by decide +kernel
theorem dX10_driftPair_91 : decode cX10_driftPair 91 = .ok (.getfield 10, 3) := by decide +kernel
theorem dX10_driftPair_94 : decode cX10_driftPair 94 = .ok (.iload_n 2, 1) := by decide +kernel
theorem dX10_driftPair_95 : decode cX10_driftPair 95 = .ok (.invokevirtual 129, 3) := by decide +kernel
theorem dX10_driftPair_98 : decode cX10_driftPair 98 = .ok (.iconst 1, 1) := by decide +kernel
theorem dX10_driftPair_99 : decode cX10_driftPair 99 = .ok (.iload_n 3, 1) := by decide +kernel
theorem dX10_driftPair_100 : decode cX10_driftPair 100 = .ok (.ishl, 1) := by decide +kernel
theorem dX10_driftPair_101 : decode cX10_driftPair 101 = .ok (.ixor, 1) := by decide +kernel
theorem dX10_driftPair_102 : decode cX10_driftPair 102 = .ok (.invokevirtual 132, 3) := by decide +kernel
theorem dX10_driftPair_105 : decode cX10_driftPair 105 = .ok (.return_, 1) := by decide +kernel
theorem dX10_reasonAgainst_0 : decode cX10_reasonAgainst 0 = .ok (.iload_n 1, 1) := by decide +kernel
theorem dX10_reasonAgainst_1 : decode cX10_reasonAgainst 1 = .ok (.bipush 10, 2) := by decide +kernel
theorem dX10_reasonAgainst_3 : decode cX10_reasonAgainst 3 = .ok (.idiv, 1) := by decide +kernel
theorem dX10_reasonAgainst_4 : decode cX10_reasonAgainst 4 = .ok (.istore_n 3, 1) := by decide +kernel
theorem dX10_reasonAgainst_5 : decode cX10_reasonAgainst 5 = .ok (.iconst 1, 1) := by decide +kernel
theorem dX10_reasonAgainst_6 : decode cX10_reasonAgainst 6 = .ok (.istore 4, 2) := by decide +kernel
theorem dX10_reasonAgainst_8 : decode cX10_reasonAgainst 8 = .ok (.iconst 0, 1) := by decide +kernel
theorem dX10_reasonAgainst_9 : decode cX10_reasonAgainst 9 = .ok (.istore 5, 2) := by decide +kernel
theorem dX10_reasonAgainst_11 : decode cX10_reasonAgainst 11 = .ok (.bipush 9, 2) := by decide +kernel
theorem dX10_reasonAgainst_13 : decode cX10_reasonAgainst 13 = .ok (.istore 6, 2) := by decide +kernel
theorem dX10_reasonAgainst_15 : decode cX10_reasonAgainst 15 = .ok (.iload_n 2, 1) := by decide +kernel
theorem dX10_reasonAgainst_16 : decode cX10_reasonAgainst 16 = .ok (.iconst 2, 1) := by decide +kernel
theorem dX10_reasonAgainst_17 : decode cX10_reasonAgainst 17 = .ok (.isub, 1) := by decide +kernel
theorem dX10_reasonAgainst_18 : decode cX10_reasonAgainst 18 = .ok (.istore 7, 2) := by decide +kernel
theorem dX10_reasonAgainst_20 : decode cX10_reasonAgainst 20 = .ok (.iload 7, 2) := by decide +kernel
theorem dX10_reasonAgainst_22 : decode cX10_reasonAgainst 22 = .ok (.ifCond .lt 71, 3) := by decide +kernel
theorem dX10_reasonAgainst_25 : decode cX10_reasonAgainst 25 = .ok (.iload_n 3, 1) := by decide +kernel
theorem dX10_reasonAgainst_26 : decode cX10_reasonAgainst 26 = .ok (.bipush 10, 2) := by decide +kernel
theorem dX10_reasonAgainst_28 : decode cX10_reasonAgainst 28 = .ok (.irem, 1) := by decide +kernel
theorem dX10_reasonAgainst_29 : decode cX10_reasonAgainst 29 = .ok (.istore 8, 2) := by decide +kernel
theorem dX10_reasonAgainst_31 : decode cX10_reasonAgainst 31 = .ok (.aload_n 0, 1) := by decide +kernel
theorem dX10_reasonAgainst_32 : decode cX10_reasonAgainst 32 = .ok (.iload 8, 2) := by decide +kernel
theorem dX10_reasonAgainst_34 : decode cX10_reasonAgainst 34 = .ok (.iload 5, 2) := by decide +kernel
theorem dX10_reasonAgainst_36 : decode cX10_reasonAgainst 36 = .ok (.iload 4, 2) := by decide +kernel
theorem dX10_reasonAgainst_38 : decode cX10_reasonAgainst 38 = .ok (.iload 6, 2) := by decide +kernel
theorem dX10_reasonAgainst_40 : decode cX10_reasonAgainst 40 = .ok (.invokevirtual 362, 3) := by decide +kernel
theorem dX10_reasonAgainst_43 : decode cX10_reasonAgainst 43 = .ok (.istore 9, 2) := by decide +kernel
theorem dX10_reasonAgainst_45 : decode cX10_reasonAgainst 45 = .ok (.iload 9, 2) := by decide +kernel
theorem dX10_reasonAgainst_47 : decode cX10_reasonAgainst 47 = .ok (.ifCond .eq 18, 3) := by decide +kernel
theorem dX10_reasonAgainst_50 : decode cX10_reasonAgainst 50 = .ok (.bipush 100, 2) := by decide +kernel
theorem dX10_reasonAgainst_52 : decode cX10_reasonAgainst 52 = .ok (.iload 9, 2) := by decide +kernel
theorem dX10_reasonAgainst_54 : decode cX10_reasonAgainst 54 = .ok (.imul, 1) := by decide +kernel
theorem dX10_reasonAgainst_55 : decode cX10_reasonAgainst 55 = .ok (.bipush 10, 2) := by decide +kernel
theorem dX10_reasonAgainst_57 : decode cX10_reasonAgainst 57 = .ok (.iload 8, 2) := by decide +kernel
theorem dX10_reasonAgainst_59 : decode cX10_reasonAgainst 59 = .ok (.imul, 1) := by decide +kernel
theorem dX10_reasonAgainst_60 : decode cX10_reasonAgainst 60 = .ok (.iadd, 1) := by decide +kernel
theorem dX10_reasonAgainst_61 : decode cX10_reasonAgainst 61 = .ok (.iload 7, 2) := by decide +kernel
theorem dX10_reasonAgainst_63 : decode cX10_reasonAgainst 63 = .ok (.iadd, 1) := by decide +kernel
theorem dX10_reasonAgainst_64 : decode cX10_reasonAgainst 64 = .ok (.ireturn, 1) := by decide +kernel
theorem dX10_reasonAgainst_65 : decode cX10_reasonAgainst 65 = .ok (.iload 4, 2) := by decide +kernel
theorem dX10_reasonAgainst_67 : decode cX10_reasonAgainst 67 = .ok (.iconst 1, 1) := by decide +kernel
theorem dX10_reasonAgainst_68 : decode cX10_reasonAgainst 68 = .ok (.iload 8, 2) := by decide +kernel
theorem dX10_reasonAgainst_70 : decode cX10_reasonAgainst 70 = .ok (.ishl, 1) := by decide +kernel
theorem dX10_reasonAgainst_71 : decode cX10_reasonAgainst 71 = .ok (.ior, 1) := by decide +kernel
theorem dX10_reasonAgainst_72 : decode cX10_reasonAgainst 72 = .ok (.istore 4, 2) := by decide +kernel
theorem dX10_reasonAgainst_74 : decode cX10_reasonAgainst 74 = .ok (.iload 5, 2) := by decide +kernel
theorem dX10_reasonAgainst_76 : decode cX10_reasonAgainst 76 = .ok (.istore 6, 2) := by decide +kernel
theorem dX10_reasonAgainst_78 : decode cX10_reasonAgainst 78 = .ok (.iload 8, 2) := by decide +kernel
theorem dX10_reasonAgainst_80 : decode cX10_reasonAgainst 80 = .ok (.istore 5, 2) := by decide +kernel
theorem dX10_reasonAgainst_82 : decode cX10_reasonAgainst 82 = .ok (.iload_n 3, 1) := by decide +kernel
theorem dX10_reasonAgainst_83 : decode cX10_reasonAgainst 83 = .ok (.bipush 10, 2) := by decide +kernel
theorem dX10_reasonAgainst_85 : decode cX10_reasonAgainst 85 = .ok (.idiv, 1) := by decide +kernel
theorem dX10_reasonAgainst_86 : decode cX10_reasonAgainst 86 = .ok (.istore_n 3, 1) := by decide +kernel
theorem dX10_reasonAgainst_87 : decode cX10_reasonAgainst 87 = .ok (.iinc 7 (-1), 3) := by decide +kernel
theorem dX10_reasonAgainst_90 : decode cX10_reasonAgainst 90 = .ok (.goto (-70), 3) := by decide +kernel
theorem dX10_reasonAgainst_93 : decode cX10_reasonAgainst 93 = .ok (.iconst 0, 1) := by decide +kernel
theorem dX10_reasonAgainst_94 : decode cX10_reasonAgainst 94 = .ok (.ireturn, 1) := by decide +kernel
theorem dX10_reasonOf_0 : decode cX10_reasonOf 0 = .ok (.aload_n 0, 1) := by decide +kernel
theorem dX10_reasonOf_1 : decode cX10_reasonOf 1 = .ok (.getfield 10, 3) := by decide +kernel
theorem dX10_reasonOf_4 : decode cX10_reasonOf 4 = .ok (.iload_n 1, 1) := by decide +kernel
theorem dX10_reasonOf_5 : decode cX10_reasonOf 5 = .ok (.iload_n 2, 1) := by decide +kernel
theorem dX10_reasonOf_6 : decode cX10_reasonOf 6 = .ok (.invokevirtual 365, 3) := by decide +kernel
theorem dX10_reasonOf_9 : decode cX10_reasonOf 9 = .ok (.ifCond .ne 5, 3) := by decide +kernel
theorem dX10_reasonOf_12 : decode cX10_reasonOf 12 = .ok (.iconst 1, 1) := by decide +kernel
theorem dX10_reasonOf_13 : decode cX10_reasonOf 13 = .ok (.ireturn, 1) := by decide +kernel
theorem dX10_reasonOf_14 : decode cX10_reasonOf 14 = .ok (.iload_n 3, 1) := by decide +kernel
theorem dX10_reasonOf_15 : decode cX10_reasonOf 15 = .ok (.iconst 1, 1) := by decide +kernel
theorem dX10_reasonOf_16 : decode cX10_reasonOf 16 = .ok (.iload_n 1, 1) := by decide +kernel
theorem dX10_reasonOf_17 : decode cX10_reasonOf 17 = .ok (.ishl, 1) := by decide +kernel
theorem dX10_reasonOf_18 : decode cX10_reasonOf 18 = .ok (.iand, 1) := by decide +kernel
theorem dX10_reasonOf_19 : decode cX10_reasonOf 19 = .ok (.ifCond .eq 5, 3) := by decide +kernel
theorem dX10_reasonOf_22 : decode cX10_reasonOf 22 = .ok (.iconst 2, 1) := by decide +kernel
theorem dX10_reasonOf_23 : decode cX10_reasonOf 23 = .ok (.ireturn, 1) := by decide +kernel
theorem dX10_reasonOf_24 : decode cX10_reasonOf 24 = .ok (.iload_n 3, 1) := by decide +kernel
theorem dX10_reasonOf_25 : decode cX10_reasonOf 25 = .ok (.aload_n 0, 1) := by decide +kernel
theorem dX10_reasonOf_26 : decode cX10_reasonOf 26 = .ok (.getfield 10, 3) := by decide +kernel
theorem dX10_reasonOf_29 : decode cX10_reasonOf 29 = .ok (.iload_n 1, 1) := by decide +kernel
theorem dX10_reasonOf_30 : decode cX10_reasonOf 30 = .ok (.invokevirtual 129, 3) := by decide +kernel
theorem dX10_reasonOf_33 : decode cX10_reasonOf 33 = .ok (.iand, 1) := by decide +kernel
theorem dX10_reasonOf_34 : decode cX10_reasonOf 34 = .ok (.ifCond .eq 5, 3) := by decide +kernel
theorem dX10_reasonOf_37 : decode cX10_reasonOf 37 = .ok (.iconst 3, 1) := by decide +kernel
theorem dX10_reasonOf_38 : decode cX10_reasonOf 38 = .ok (.ireturn, 1) := by decide +kernel
theorem dX10_reasonOf_39 : decode cX10_reasonOf 39 = .ok (.aload_n 0, 1) := by decide +kernel
theorem dX10_reasonOf_40 : decode cX10_reasonOf 40 = .ok (.getfield 10, 3) := by decide +kernel
theorem dX10_reasonOf_43 : decode cX10_reasonOf 43 = .ok (.iload_n 2, 1) := by decide +kernel
theorem dX10_reasonOf_44 : decode cX10_reasonOf 44 = .ok (.iload 4, 2) := by decide +kernel
theorem dX10_reasonOf_46 : decode cX10_reasonOf 46 = .ok (.iload_n 1, 1) := by decide +kernel
theorem dX10_reasonOf_47 : decode cX10_reasonOf 47 = .ok (.invokevirtual 368, 3) := by decide +kernel
theorem dX10_reasonOf_50 : decode cX10_reasonOf 50 = .ok (.ifCond .eq 7, 3) := by decide +kernel
theorem dX10_reasonOf_53 : decode cX10_reasonOf 53 = .ok (.iconst 0, 1) := by decide +kernel
theorem dX10_reasonOf_54 : decode cX10_reasonOf 54 = .ok (.goto 4, 3) := by decide +kernel
theorem dX10_reasonOf_57 : decode cX10_reasonOf 57 = .ok (.iconst 4, 1) := by decide +kernel
theorem dX10_reasonOf_58 : decode cX10_reasonOf 58 = .ok (.ireturn, 1) := by decide +kernel
theorem dX10_figuresOf_0 : decode cX10_figuresOf 0 = .ok (.iconst 1, 1) := by decide +kernel
theorem dX10_figuresOf_1 : decode cX10_figuresOf 1 = .ok (.istore_n 1, 1) := by decide +kernel
theorem dX10_figuresOf_2 : decode cX10_figuresOf 2 = .ok (.iload_n 0, 1) := by decide +kernel
theorem dX10_figuresOf_3 : decode cX10_figuresOf 3 = .ok (.bipush 10, 2) := by decide +kernel
theorem dX10_figuresOf_5 : decode cX10_figuresOf 5 = .ok (.idiv, 1) := by decide +kernel
theorem dX10_figuresOf_6 : decode cX10_figuresOf 6 = .ok (.istore_n 2, 1) := by decide +kernel
theorem dX10_figuresOf_7 : decode cX10_figuresOf 7 = .ok (.iconst 1, 1) := by decide +kernel
theorem dX10_figuresOf_8 : decode cX10_figuresOf 8 = .ok (.istore_n 3, 1) := by decide +kernel
theorem dX10_figuresOf_9 : decode cX10_figuresOf 9 = .ok (.iload_n 3, 1) := by decide +kernel
theorem dX10_figuresOf_10 : decode cX10_figuresOf 10 = .ok (.bipush 6, 2) := by decide +kernel
theorem dX10_figuresOf_12 : decode cX10_figuresOf 12 = .ok (.if_icmp .ge 21, 3) := by decide +kernel
theorem dX10_figuresOf_15 : decode cX10_figuresOf 15 = .ok (.iload_n 2, 1) := by decide +kernel
theorem dX10_figuresOf_16 : decode cX10_figuresOf 16 = .ok (.ifCond .le 17, 3) := by decide +kernel
theorem dX10_figuresOf_19 : decode cX10_figuresOf 19 = .ok (.iinc 1 1, 3) := by decide +kernel
theorem dX10_figuresOf_22 : decode cX10_figuresOf 22 = .ok (.iload_n 2, 1) := by decide +kernel
theorem dX10_figuresOf_23 : decode cX10_figuresOf 23 = .ok (.bipush 10, 2) := by decide +kernel
theorem dX10_figuresOf_25 : decode cX10_figuresOf 25 = .ok (.idiv, 1) := by decide +kernel
theorem dX10_figuresOf_26 : decode cX10_figuresOf 26 = .ok (.istore_n 2, 1) := by decide +kernel
theorem dX10_figuresOf_27 : decode cX10_figuresOf 27 = .ok (.iinc 3 1, 3) := by decide +kernel
theorem dX10_figuresOf_30 : decode cX10_figuresOf 30 = .ok (.goto (-21), 3) := by decide +kernel
theorem dX10_figuresOf_33 : decode cX10_figuresOf 33 = .ok (.iload_n 1, 1) := by decide +kernel
theorem dX10_figuresOf_34 : decode cX10_figuresOf 34 = .ok (.ireturn, 1) := by decide +kernel
theorem dX11_init_0 : decode cX11_init 0 = .ok (.aload_n 0, 1) := by decide +kernel
theorem dX11_init_1 : decode cX11_init 1 = .ok (.invokespecial 1, 3) := by decide +kernel
theorem dX11_init_4 : decode cX11_init 4 = .ok (.aload_n 0, 1) := by decide +kernel
theorem dX11_init_5 : decode cX11_init 5 = .ok (.sipush 128, 3) := by decide +kernel
theorem dX11_init_8 : decode cX11_init 8 = .ok (.newarray .int, 2) := by decide +kernel
theorem dX11_init_10 : decode cX11_init 10 = .ok (.putfield 7, 3) := by decide +kernel
theorem dX11_init_13 : decode cX11_init 13 = .ok (.aload_n 0, 1) := by decide +kernel
theorem dX11_init_14 : decode cX11_init 14 = .ok (.sipush 768, 3) := by decide +kernel
theorem dX11_init_17 : decode cX11_init 17 = .ok (.newarray .int, 2) := by decide +kernel
theorem dX11_init_19 : decode cX11_init 19 = .ok (.putfield 13, 3) := by decide +kernel
theorem dX11_init_22 : decode cX11_init 22 = .ok (.aload_n 0, 1) := by decide +kernel
theorem dX11_init_23 : decode cX11_init 23 = .ok (.sipush 128, 3) := by decide +kernel
theorem dX11_init_26 : decode cX11_init 26 = .ok (.newarray .int, 2) := by decide +kernel
theorem dX11_init_28 : decode cX11_init 28 = .ok (.putfield 16, 3) := by decide +kernel
theorem dX11_init_31 : decode cX11_init 31 = .ok (.aload_n 0, 1) := by decide +kernel
theorem dX11_init_32 : decode cX11_init 32 = .ok (.sipush 768, 3) := by decide +kernel
theorem dX11_init_35 : decode cX11_init 35 = .ok (.newarray .int, 2) := by decide +kernel
theorem dX11_init_37 : decode cX11_init 37 = .ok (.putfield 19, 3) := by decide +kernel
theorem dX11_init_40 : decode cX11_init 40 = .ok (.aload_n 0, 1) := by decide +kernel
theorem dX11_init_41 : decode cX11_init 41 = .ok (.iconst (-1), 1) := by decide +kernel
theorem dX11_init_42 : decode cX11_init 42 = .ok (.putfield 22, 3) := by decide +kernel
theorem dX11_init_45 : decode cX11_init 45 = .ok (.aload_n 0, 1) := by decide +kernel
theorem dX11_init_46 : decode cX11_init 46 = .ok (.bipush 80, 2) := by decide +kernel
theorem dX11_init_48 : decode cX11_init 48 = .ok (.newarray .int, 2) := by decide +kernel
theorem dX11_init_50 : decode cX11_init 50 = .ok (.putfield 26, 3) := by decide +kernel
theorem dX11_init_53 : decode cX11_init 53 = .ok (.aload_n 0, 1) := by decide +kernel
theorem dX11_init_54 : decode cX11_init 54 = .ok (.iconst 4, 1) := by decide +kernel
theorem dX11_init_55 : decode cX11_init 55 = .ok (.newarray .int, 2) := by decide +kernel
theorem dX11_init_57 : decode cX11_init 57 = .ok (.putfield 29, 3) := by decide +kernel
theorem dX11_init_60 : decode cX11_init 60 = .ok (.aload_n 0, 1) := by decide +kernel
theorem dX11_init_61 : decode cX11_init 61 = .ok (.iconst 4, 1) := by decide +kernel
theorem dX11_init_62 : decode cX11_init 62 = .ok (.newarray .int, 2) := by decide +kernel
theorem dX11_init_64 : decode cX11_init 64 = .ok (.putfield 32, 3) := by decide +kernel
theorem dX11_init_67 : decode cX11_init 67 = .ok (.aload_n 0, 1) := by decide +kernel
theorem dX11_init_68 : decode cX11_init 68 = .ok (.bipush 96, 2) := by decide +kernel
theorem dX11_init_70 : decode cX11_init 70 = .ok (.newarray .long, 2) := by decide +kernel
theorem dX11_init_72 : decode cX11_init 72 = .ok (.putfield 35, 3) := by decide +kernel
theorem dX11_init_75 : decode cX11_init 75 = .ok (.aload_n 0, 1) := by decide +kernel
theorem dX11_init_76 : decode cX11_init 76 = .ok (.sipush 326, 3) := by decide +kernel
theorem dX11_init_79 : decode cX11_init 79 = .ok (.newarray .int, 2) := by decide +kernel
theorem dX11_init_81 : decode cX11_init 81 = .ok (.putfield 39, 3) := by decide +kernel
theorem dX11_init_84 : decode cX11_init 84 = .ok (.aload_n 0, 1) := by decide +kernel
theorem dX11_init_85 : decode cX11_init 85 = .ok (.sipush 326, 3) := by decide +kernel
theorem dX11_init_88 : decode cX11_init 88 = .ok (.newarray .int, 2) := by decide +kernel
theorem dX11_init_90 : decode cX11_init 90 = .ok (.putfield 42, 3) := by decide +kernel
theorem dX11_init_93 : decode cX11_init 93 = .ok (.aload_n 0, 1) := by decide +kernel
theorem dX11_init_94 : decode cX11_init 94 = .ok (.bipush 6, 2) := by decide +kernel
theorem dX11_init_96 : decode cX11_init 96 = .ok (.newarray .int, 2) := by decide +kernel
theorem dX11_init_98 : decode cX11_init 98 = .ok (.putfield 45, 3) := by decide +kernel
theorem dX11_init_101 : decode cX11_init 101 = .ok (.aload_n 0, 1) := by decide +kernel
theorem dX11_init_102 : decode cX11_init 102 = .ok (.bipush 6, 2) := by decide +kernel
theorem dX11_init_104 : decode cX11_init 104 = .ok (.newarray .int, 2) := by decide +kernel
theorem dX11_init_106 : decode cX11_init 106 = .ok (.putfield 48, 3) := by decide +kernel
theorem dX11_init_109 : decode cX11_init 109 = .ok (.aload_n 0, 1) := by decide +kernel
theorem dX11_init_110 : decode cX11_init 110 = .ok (.sipush 366, 3) := by decide +kernel
theorem dX11_init_113 : decode cX11_init 113 = .ok (.newarray .int, 2) := by decide +kernel
theorem dX11_init_115 : decode cX11_init 115 = .ok (.putfield 51, 3) := by decide +kernel
theorem dX11_init_118 : decode cX11_init 118 = .ok (.aload_n 0, 1) := by decide +kernel
theorem dX11_init_119 : decode cX11_init 119 = .ok (.bipush 6, 2) := by decide +kernel
theorem dX11_init_121 : decode cX11_init 121 = .ok (.newarray .int, 2) := by decide +kernel
theorem dX11_init_123 : decode cX11_init 123 = .ok (.putfield 54, 3) := by decide +kernel
theorem dX11_init_126 : decode cX11_init 126 = .ok (.aload_n 0, 1) := by decide +kernel
theorem dX11_init_127 : decode cX11_init 127 = .ok (.sipush 1956, 3) := by decide +kernel
theorem dX11_init_130 : decode cX11_init 130 = .ok (.newarray .long, 2) := by decide +kernel
theorem dX11_init_132 : decode cX11_init 132 = .ok (.putfield 57, 3) := by decide +kernel
theorem dX11_init_135 : decode cX11_init 135 = .ok (.aload_n 0, 1) := by decide +kernel
theorem dX11_init_136 : decode cX11_init 136 = .ok (.bipush 6, 2) := by decide +kernel
theorem dX11_init_138 : decode cX11_init 138 = .ok (.newarray .long, 2) := by decide +kernel
theorem dX11_init_140 : decode cX11_init 140 = .ok (.putfield 60, 3) := by decide +kernel
theorem dX11_init_143 : decode cX11_init 143 = .ok (.aload_n 0, 1) := by decide +kernel
theorem dX11_init_144 : decode cX11_init 144 = .ok (.bipush 6, 2) := by decide +kernel
theorem dX11_init_146 : decode cX11_init 146 = .ok (.newarray .long, 2) := by decide +kernel
theorem dX11_init_148 : decode cX11_init 148 = .ok (.putfield 63, 3) := by decide +kernel
theorem dX11_init_151 : decode cX11_init 151 = .ok (.aload_n 0, 1) := by decide +kernel
theorem dX11_init_152 : decode cX11_init 152 = .ok (.bipush 6, 2) := by decide +kernel
theorem dX11_init_154 : decode cX11_init 154 = .ok (.newarray .long, 2) := by decide +kernel
theorem dX11_init_156 : decode cX11_init 156 = .ok (.putfield 66, 3) := by decide +kernel
theorem dX11_init_159 : decode cX11_init 159 = .ok (.aload_n 0, 1) := by decide +kernel
theorem dX11_init_160 : decode cX11_init 160 = .ok (.bipush 36, 2) := by decide +kernel
theorem dX11_init_162 : decode cX11_init 162 = .ok (.newarray .int, 2) := by decide +kernel
theorem dX11_init_164 : decode cX11_init 164 = .ok (.putfield 69, 3) := by decide +kernel
theorem dX11_init_167 : decode cX11_init 167 = .ok (.aload_n 0, 1) := by decide +kernel
theorem dX11_init_168 : decode cX11_init 168 = .ok (.bipush 65, 2) := by decide +kernel
theorem dX11_init_170 : decode cX11_init 170 = .ok (.newarray .int, 2) := by decide +kernel
theorem dX11_init_172 : decode cX11_init 172 = .ok (.putfield 72, 3) := by decide +kernel
theorem dX11_init_175 : decode cX11_init 175 = .ok (.aload_n 0, 1) := by decide +kernel
theorem dX11_init_176 : decode cX11_init 176 = .ok (.bipush 36, 2) := by decide +kernel
theorem dX11_init_178 : decode cX11_init 178 = .ok (.newarray .int, 2) := by decide +kernel
theorem dX11_init_180 : decode cX11_init 180 = .ok (.putfield 75, 3) := by decide +kernel
theorem dX11_init_183 : decode cX11_init 183 = .ok (.aload_n 0, 1) := by decide +kernel
theorem dX11_init_184 : decode cX11_init 184 = .ok (.bipush 36, 2) := by decide +kernel
theorem dX11_init_186 : decode cX11_init 186 = .ok (.newarray .int, 2) := by decide +kernel
theorem dX11_init_188 : decode cX11_init 188 = .ok (.putfield 78, 3) := by decide +kernel
theorem dX11_init_191 : decode cX11_init 191 = .ok (.aload_n 0, 1) := by decide +kernel
theorem dX11_init_192 : decode cX11_init 192 = .ok (.getfield 7, 3) := by decide +kernel
theorem dX11_init_195 : decode cX11_init 195 = .ok (.iconst 0, 1) := by decide +kernel
theorem dX11_init_196 : decode cX11_init 196 = .ok (.iconst 4, 1) := by decide +kernel
theorem dX11_init_197 : decode cX11_init 197 = .ok (.iastore, 1) := by decide +kernel
theorem dX11_init_198 : decode cX11_init 198 = .ok (.aload_n 0, 1) := by decide +kernel
theorem dX11_init_199 : decode cX11_init 199 = .ok (.getfield 7, 3) := by decide +kernel
theorem dX11_init_202 : decode cX11_init 202 = .ok (.bipush 127, 2) := by decide +kernel
theorem dX11_init_204 : decode cX11_init 204 = .ok (.iconst 1, 1) := by decide +kernel
theorem dX11_init_205 : decode cX11_init 205 = .ok (.iastore, 1) := by decide +kernel
theorem dX11_init_206 : decode cX11_init 206 = .ok (.iconst 0, 1) := by decide +kernel
theorem dX11_init_207 : decode cX11_init 207 = .ok (.istore_n 1, 1) := by decide +kernel
theorem dX11_init_208 : decode cX11_init 208 = .ok (.iload_n 1, 1) := by decide +kernel
theorem dX11_init_209 : decode cX11_init 209 = .ok (.bipush 6, 2) := by decide +kernel
theorem dX11_init_211 : decode cX11_init 211 = .ok (.if_icmp .ge 38, 3) := by decide +kernel
theorem dX11_init_214 : decode cX11_init 214 = .ok (.aload_n 0, 1) := by decide +kernel
theorem dX11_init_215 : decode cX11_init 215 = .ok (.getfield 7, 3) := by decide +kernel
theorem dX11_init_218 : decode cX11_init 218 = .ok (.bipush 109, 2) := by decide +kernel
theorem dX11_init_220 : decode cX11_init 220 = .ok (.iload_n 1, 1) := by decide +kernel
theorem dX11_init_221 : decode cX11_init 221 = .ok (.iadd, 1) := by decide +kernel
theorem dX11_init_222 : decode cX11_init 222 = .ok (.iconst 3, 1) := by decide +kernel
theorem dX11_init_223 : decode cX11_init 223 = .ok (.iastore, 1) := by decide +kernel
theorem dX11_init_224 : decode cX11_init 224 = .ok (.aload_n 0, 1) := by decide +kernel
theorem dX11_init_225 : decode cX11_init 225 = .ok (.getfield 7, 3) := by decide +kernel
theorem dX11_init_228 : decode cX11_init 228 = .ok (.bipush 121, 2) := by decide +kernel
theorem dX11_init_230 : decode cX11_init 230 = .ok (.iload_n 1, 1) := by decide +kernel
theorem dX11_init_231 : decode cX11_init 231 = .ok (.iadd, 1) := by decide +kernel
theorem dX11_init_232 : decode cX11_init 232 = .ok (.iload_n 1, 1) := by decide +kernel
theorem dX11_init_233 : decode cX11_init 233 = .ok (.ifCond .ne 7, 3) := by decide +kernel
theorem dX11_init_236 : decode cX11_init 236 = .ok (.iconst 0, 1) := by decide +kernel
theorem dX11_init_237 : decode cX11_init 237 = .ok (.goto 5, 3) := by decide +kernel
theorem dX11_init_240 : decode cX11_init 240 = .ok (.bipush (-4), 2) := by decide +kernel
theorem dX11_init_242 : decode cX11_init 242 = .ok (.iastore, 1) := by decide +kernel
theorem dX11_init_243 : decode cX11_init 243 = .ok (.iinc 1 1, 3) := by decide +kernel
theorem dX11_init_246 : decode cX11_init 246 = .ok (.goto (-38), 3) := by decide +kernel
theorem dX11_init_249 : decode cX11_init 249 = .ok (.iconst 0, 1) := by decide +kernel
theorem dX11_init_250 : decode cX11_init 250 = .ok (.istore_n 1, 1) := by decide +kernel
theorem dX11_init_251 : decode cX11_init 251 = .ok (.iload_n 1, 1) := by decide +kernel
theorem dX11_init_252 : decode cX11_init 252 = .ok (.iconst 4, 1) := by decide +kernel
theorem dX11_init_253 : decode cX11_init 253 = .ok (.if_icmp .ge 17, 3) := by decide +kernel
theorem dX11_init_256 : decode cX11_init 256 = .ok (.aload_n 0, 1) := by decide +kernel
theorem dX11_init_257 : decode cX11_init 257 = .ok (.getfield 29, 3) := by decide +kernel
theorem dX11_init_260 : decode cX11_init 260 = .ok (.iload_n 1, 1) := by decide +kernel
theorem dX11_init_261 : decode cX11_init 261 = .ok (.bipush (-4), 2) := by decide +kernel
theorem dX11_init_263 : decode cX11_init 263 = .ok (.iastore, 1) := by decide +kernel
theorem dX11_init_264 : decode cX11_init 264 = .ok (.iinc 1 1, 3) := by decide +kernel
theorem dX11_init_267 : decode cX11_init 267 = .ok (.goto (-16), 3) := by decide +kernel
theorem dX11_init_270 : decode cX11_init 270 = .ok (.return_, 1) := by decide +kernel
theorem dX11_in_0 : decode cX11_in 0 = .ok (.lload_n 0, 1) := by decide +kernel
theorem dX11_in_1 : decode cX11_in 1 = .ok (.lload_n 2, 1) := by decide +kernel
theorem dX11_in_2 : decode cX11_in 2 = .ok (.lcmp, 1) := by decide +kernel
theorem dX11_in_3 : decode cX11_in 3 = .ok (.ifCond .lt 14, 3) := by decide +kernel
theorem dX11_in_6 : decode cX11_in 6 = .ok (.lload_n 0, 1) := by decide +kernel
theorem dX11_in_7 : decode cX11_in 7 = .ok (.lload 4, 2) := by decide +kernel
theorem dX11_in_9 : decode cX11_in 9 = .ok (.lcmp, 1) := by decide +kernel
theorem dX11_in_10 : decode cX11_in 10 = .ok (.ifCond .gt 7, 3) := by decide +kernel
theorem dX11_in_13 : decode cX11_in 13 = .ok (.iconst 1, 1) := by decide +kernel
theorem dX11_in_14 : decode cX11_in 14 = .ok (.goto 4, 3) := by decide +kernel
theorem dX11_in_17 : decode cX11_in 17 = .ok (.iconst 0, 1) := by decide +kernel
theorem dX11_in_18 : decode cX11_in 18 = .ok (.ireturn, 1) := by decide +kernel
theorem dX11_bring_0 : decode cX11_bring 0 = .ok (.iconst 0, 1) := by decide +kernel
theorem dX11_bring_1 : decode cX11_bring 1 = .ok (.istore 5, 2) := by decide +kernel
theorem dX11_bring_3 : decode cX11_bring 3 = .ok (.iload 5, 2) := by decide +kernel
theorem dX11_bring_5 : decode cX11_bring 5 = .ok (.iload 4, 2) := by decide +kernel
theorem dX11_bring_7 : decode cX11_bring 7 = .ok (.if_icmp .ge 21, 3) := by decide +kernel
theorem dX11_bring_10 : decode cX11_bring 10 = .ok (.aload_n 2, 1) := by decide +kernel
theorem dX11_bring_11 : decode cX11_bring 11 = .ok (.iload_n 3, 1) := by decide +kernel
theorem dX11_bring_12 : decode cX11_bring 12 = .ok (.iload 5, 2) := by decide +kernel
theorem dX11_bring_14 : decode cX11_bring 14 = .ok (.iadd, 1) := by decide +kernel
theorem dX11_bring_15 : decode cX11_bring 15 = .ok (.aload_n 0, 1) := by decide +kernel
theorem dX11_bring_16 : decode cX11_bring 16 = .ok (.iload_n 1, 1) := by decide +kernel
theorem dX11_bring_17 : decode cX11_bring 17 = .ok (.iload 5, 2) := by decide +kernel
theorem dX11_bring_19 : decode cX11_bring 19 = .ok (.iadd, 1) := by decide +kernel
theorem dX11_bring_20 : decode cX11_bring 20 = .ok (.iaload, 1) := by decide +kernel
theorem dX11_bring_21 : decode cX11_bring 21 = .ok (.iastore, 1) := by decide +kernel
theorem dX11_bring_22 : decode cX11_bring 22 = .ok (.iinc 5 1, 3) := by decide +kernel
theorem dX11_bring_25 : decode cX11_bring 25 = .ok (.goto (-22), 3) := by decide +kernel
theorem dX11_bring_28 : decode cX11_bring 28 = .ok (.return_, 1) := by decide +kernel
theorem dX11_has_0 : decode cX11_has 0 = .ok (.iload_n 0, 1) := by decide +kernel
theorem dX11_has_1 : decode cX11_has 1 = .ok (.iload_n 1, 1) := by decide +kernel
theorem dX11_has_2 : decode cX11_has 2 = .ok (.ishr, 1) := by decide +kernel
theorem dX11_has_3 : decode cX11_has 3 = .ok (.iconst 1, 1) := by decide +kernel
theorem dX11_has_4 : decode cX11_has 4 = .ok (.iand, 1) := by decide +kernel
theorem dX11_has_5 : decode cX11_has 5 = .ok (.iconst 1, 1) := by decide +kernel
theorem dX11_has_6 : decode cX11_has 6 = .ok (.if_icmp .ne 7, 3) := by decide +kernel
theorem dX11_has_9 : decode cX11_has 9 = .ok (.iconst 1, 1) := by decide +kernel
theorem dX11_has_10 : decode cX11_has 10 = .ok (.goto 4, 3) := by decide +kernel
theorem dX11_has_13 : decode cX11_has 13 = .ok (.iconst 0, 1) := by decide +kernel
theorem dX11_has_14 : decode cX11_has 14 = .ok (.ireturn, 1) := by decide +kernel
theorem dX11_notes_0 : decode cX11_notes 0 = .ok (.aload_n 0, 1) := by decide +kernel
theorem dX11_notes_1 : decode cX11_notes 1 = .ok (.getfield 81, 3) := by decide +kernel
theorem dX11_notes_4 : decode cX11_notes 4 = .ok (.bipush 6, 2) := by decide +kernel
theorem dX11_notes_6 : decode cX11_notes 6 = .ok (.if_icmp .ne 31, 3) := by decide +kernel
theorem dX11_notes_9 : decode cX11_notes 9 = .ok (.aload_n 0, 1) := by decide +kernel
theorem dX11_notes_10 : decode cX11_notes 10 = .ok (.getfield 13, 3) := by decide +kernel
theorem dX11_notes_13 : decode cX11_notes 13 = .ok (.sipush 128, 3) := by decide +kernel
theorem dX11_notes_16 : decode cX11_notes 16 = .ok (.aload_n 0, 1) := by decide +kernel
theorem dX11_notes_17 : decode cX11_notes 17 = .ok (.getfield 13, 3) := by decide +kernel
theorem dX11_notes_20 : decode cX11_notes 20 = .ok (.iconst 0, 1) := by decide +kernel
theorem dX11_notes_21 : decode cX11_notes 21 = .ok (.sipush 640, 3) := by decide +kernel
theorem dX11_notes_24 : decode cX11_notes 24 = .ok (.invokestatic 84, 3) := by decide +kernel
theorem dX11_notes_27 : decode cX11_notes 27 = .ok (.aload_n 0, 1) := by decide +kernel
theorem dX11_notes_28 : decode cX11_notes 28 = .ok (.dup, 1) := by decide +kernel
theorem dX11_notes_29 : decode cX11_notes 29 = .ok (.getfield 81, 3) := by decide +kernel
theorem dX11_notes_32 : decode cX11_notes 32 = .ok (.iconst 1, 1) := by decide +kernel
theorem dX11_notes_33 : decode cX11_notes 33 = .ok (.isub, 1) := by decide +kernel
theorem dX11_notes_34 : decode cX11_notes 34 = .ok (.putfield 81, 3) := by decide +kernel
theorem dX11_notes_37 : decode cX11_notes 37 = .ok (.aload_n 0, 1) := by decide +kernel
theorem dX11_notes_38 : decode cX11_notes 38 = .ok (.getfield 7, 3) := by decide +kernel
theorem dX11_notes_41 : decode cX11_notes 41 = .ok (.iconst 0, 1) := by decide +kernel
theorem dX11_notes_42 : decode cX11_notes 42 = .ok (.aload_n 0, 1) := by decide +kernel
theorem dX11_notes_43 : decode cX11_notes 43 = .ok (.getfield 13, 3) := by decide +kernel
theorem dX11_notes_46 : decode cX11_notes 46 = .ok (.sipush 128, 3) := by decide +kernel
theorem dX11_notes_49 : decode cX11_notes 49 = .ok (.aload_n 0, 1) := by decide +kernel
theorem dX11_notes_50 : decode cX11_notes 50 = .ok (.getfield 81, 3) := by decide +kernel
theorem dX11_notes_53 : decode cX11_notes 53 = .ok (.imul, 1) := by decide +kernel
theorem dX11_notes_54 : decode cX11_notes 54 = .ok (.sipush 128, 3) := by decide +kernel
theorem dX11_notes_57 : decode cX11_notes 57 = .ok (.invokestatic 84, 3) := by decide +kernel
theorem dX11_notes_60 : decode cX11_notes 60 = .ok (.aload_n 0, 1) := by decide +kernel
theorem dX11_notes_61 : decode cX11_notes 61 = .ok (.dup, 1) := by decide +kernel
theorem dX11_notes_62 : decode cX11_notes 62 = .ok (.getfield 81, 3) := by decide +kernel
theorem dX11_notes_65 : decode cX11_notes 65 = .ok (.iconst 1, 1) := by decide +kernel
theorem dX11_notes_66 : decode cX11_notes 66 = .ok (.iadd, 1) := by decide +kernel
theorem dX11_notes_67 : decode cX11_notes 67 = .ok (.putfield 81, 3) := by decide +kernel
theorem dX11_notes_70 : decode cX11_notes 70 = .ok (.return_, 1) := by decide +kernel
theorem dX11_isDomain_0 : decode cX11_isDomain 0 = .ok (.iload_n 1, 1) := by decide +kernel
theorem dX11_isDomain_1 : decode cX11_isDomain 1 = .ok (.i2l, 1) := by decide +kernel
theorem dX11_isDomain_2 : decode cX11_isDomain 2 = .ok (.lconst 0, 1) := by decide +kernel
theorem dX11_isDomain_3 : decode cX11_isDomain 3 = .ok (.aload_n 0, 1) := by decide +kernel
theorem dX11_isDomain_4 : decode cX11_isDomain 4 = .ok (.getfield 7, 3) := by decide +kernel
theorem dX11_isDomain_7 : decode cX11_isDomain 7 = .ok (.iconst 0, 1) := by decide +kernel
theorem dX11_isDomain_8 : decode cX11_isDomain 8 = .ok (.iaload, 1) := by decide +kernel
theorem dX11_isDomain_9 : decode cX11_isDomain 9 = .ok (.iconst 1, 1) := by decide +kernel
theorem dX11_isDomain_10 : decode cX11_isDomain 10 = .ok (.isub, 1) := by decide +kernel
theorem dX11_isDomain_11 : decode cX11_isDomain 11 = .ok (.i2l, 1) := by decide +kernel
theorem dX11_isDomain_12 : decode cX11_isDomain 12 = .ok (.invokestatic 88, 3) := by decide +kernel
theorem dX11_isDomain_15 : decode cX11_isDomain 15 = .ok (.ireturn, 1) := by decide +kernel
theorem dX11_areTwo_0 : decode cX11_areTwo 0 = .ok (.aload_n 0, 1) := by decide +kernel
theorem dX11_areTwo_1 : decode cX11_areTwo 1 = .ok (.iload_n 1, 1) := by decide +kernel
theorem dX11_areTwo_2 : decode cX11_areTwo 2 = .ok (.invokevirtual 92, 3) := by decide +kernel
theorem dX11_areTwo_5 : decode cX11_areTwo 5 = .ok (.ifCond .eq 20, 3) := by decide +kernel
theorem dX11_areTwo_8 : decode cX11_areTwo 8 = .ok (.aload_n 0, 1) := by decide +kernel
theorem dX11_areTwo_9 : decode cX11_areTwo 9 = .ok (.iload_n 2, 1) := by decide +kernel
theorem dX11_areTwo_10 : decode cX11_areTwo 10 = .ok (.invokevirtual 92, 3) := by decide +kernel
theorem dX11_areTwo_13 : decode cX11_areTwo 13 = .ok (.ifCond .eq 12, 3) := by decide +kernel
theorem dX11_areTwo_16 : decode cX11_areTwo 16 = .ok (.iload_n 1, 1) := by decide +kernel
theorem dX11_areTwo_17 : decode cX11_areTwo 17 = .ok (.iload_n 2, 1) := by decide +kernel
theorem dX11_areTwo_18 : decode cX11_areTwo 18 = .ok (.if_icmp .eq 7, 3) := by decide +kernel
theorem dX11_areTwo_21 : decode cX11_areTwo 21 = .ok (.iconst 1, 1) := by decide +kernel
theorem dX11_areTwo_22 : decode cX11_areTwo 22 = .ok (.goto 4, 3) := by decide +kernel
theorem dX11_areTwo_25 : decode cX11_areTwo 25 = .ok (.iconst 0, 1) := by decide +kernel
theorem dX11_areTwo_26 : decode cX11_areTwo 26 = .ok (.ireturn, 1) := by decide +kernel
theorem dX11_pair_0 : decode cX11_pair 0 = .ok (.bipush 6, 2) := by decide +kernel
theorem dX11_pair_2 : decode cX11_pair 2 = .ok (.iload_n 0, 1) := by decide +kernel
theorem dX11_pair_3 : decode cX11_pair 3 = .ok (.imul, 1) := by decide +kernel
theorem dX11_pair_4 : decode cX11_pair 4 = .ok (.iload_n 1, 1) := by decide +kernel
theorem dX11_pair_5 : decode cX11_pair 5 = .ok (.iadd, 1) := by decide +kernel
theorem dX11_pair_6 : decode cX11_pair 6 = .ok (.ireturn, 1) := by decide +kernel
theorem dX11_links_0 : decode cX11_links 0 = .ok (.aload_n 0, 1) := by decide +kernel
theorem dX11_links_1 : decode cX11_links 1 = .ok (.getfield 7, 3) := by decide +kernel
theorem dX11_links_4 : decode cX11_links 4 = .ok (.iconst 1, 1) := by decide +kernel
theorem dX11_links_5 : decode cX11_links 5 = .ok (.iload_n 1, 1) := by decide +kernel
theorem dX11_links_6 : decode cX11_links 6 = .ok (.iload_n 2, 1) := by decide +kernel
theorem dX11_links_7 : decode cX11_links 7 = .ok (.invokestatic 96, 3) := by decide +kernel
theorem dX11_links_10 : decode cX11_links 10 = .ok (.iadd, 1) := by decide +kernel
theorem dX11_links_11 : decode cX11_links 11 = .ok (.iload_n 3, 1) := by decide +kernel
theorem dX11_links_12 : decode cX11_links 12 = .ok (.iastore, 1) := by decide +kernel
theorem dX11_links_13 : decode cX11_links 13 = .ok (.aload_n 0, 1) := by decide +kernel
theorem dX11_links_14 : decode cX11_links 14 = .ok (.getfield 7, 3) := by decide +kernel
theorem dX11_links_17 : decode cX11_links 17 = .ok (.iconst 1, 1) := by decide +kernel
theorem dX11_links_18 : decode cX11_links 18 = .ok (.iload_n 2, 1) := by decide +kernel
theorem dX11_links_19 : decode cX11_links 19 = .ok (.iload_n 1, 1) := by decide +kernel
theorem dX11_links_20 : decode cX11_links 20 = .ok (.invokestatic 96, 3) := by decide +kernel
theorem dX11_links_23 : decode cX11_links 23 = .ok (.iadd, 1) := by decide +kernel
theorem dX11_links_24 : decode cX11_links 24 = .ok (.iload_n 3, 1) := by decide +kernel
theorem dX11_links_25 : decode cX11_links 25 = .ok (.ifCond .ne 7, 3) := by decide +kernel
theorem dX11_links_28 : decode cX11_links 28 = .ok (.iconst 0, 1) := by decide +kernel
theorem dX11_links_29 : decode cX11_links 29 = .ok (.goto 6, 3) := by decide +kernel
theorem dX11_links_32 : decode cX11_links 32 = .ok (.iconst 4, 1) := by decide +kernel
theorem dX11_links_33 : decode cX11_links 33 = .ok (.iload_n 3, 1) := by decide +kernel
theorem dX11_links_34 : decode cX11_links 34 = .ok (.isub, 1) := by decide +kernel
theorem dX11_links_35 : decode cX11_links 35 = .ok (.iastore, 1) := by decide +kernel
theorem dX11_links_36 : decode cX11_links 36 = .ok (.aload_n 0, 1) := by decide +kernel
theorem dX11_links_37 : decode cX11_links 37 = .ok (.getfield 7, 3) := by decide +kernel
theorem dX11_links_40 : decode cX11_links 40 = .ok (.bipush 37, 2) := by decide +kernel
theorem dX11_links_42 : decode cX11_links 42 = .ok (.iload_n 1, 1) := by decide +kernel
theorem dX11_links_43 : decode cX11_links 43 = .ok (.iload_n 2, 1) := by decide +kernel
theorem dX11_links_44 : decode cX11_links 44 = .ok (.invokestatic 96, 3) := by decide +kernel
theorem dX11_links_47 : decode cX11_links 47 = .ok (.iadd, 1) := by decide +kernel
theorem dX11_links_48 : decode cX11_links 48 = .ok (.iload 4, 2) := by decide +kernel
theorem dX11_links_50 : decode cX11_links 50 = .ok (.iastore, 1) := by decide +kernel
theorem dX11_links_51 : decode cX11_links 51 = .ok (.aload_n 0, 1) := by decide +kernel
theorem dX11_links_52 : decode cX11_links 52 = .ok (.getfield 7, 3) := by decide +kernel
theorem dX11_links_55 : decode cX11_links 55 = .ok (.bipush 37, 2) := by decide +kernel
theorem dX11_links_57 : decode cX11_links 57 = .ok (.iload_n 2, 1) := by decide +kernel
theorem dX11_links_58 : decode cX11_links 58 = .ok (.iload_n 1, 1) := by decide +kernel
theorem dX11_links_59 : decode cX11_links 59 = .ok (.invokestatic 96, 3) := by decide +kernel
theorem dX11_links_62 : decode cX11_links 62 = .ok (.iadd, 1) := by decide +kernel
theorem dX11_links_63 : decode cX11_links 63 = .ok (.iload 4, 2) := by decide +kernel
theorem dX11_links_65 : decode cX11_links 65 = .ok (.iastore, 1) := by decide +kernel
theorem dX11_links_66 : decode cX11_links 66 = .ok (.return_, 1) := by decide +kernel
theorem dX11_link_0 : decode cX11_link 0 = .ok (.aload_n 0, 1) := by decide +kernel
theorem dX11_link_1 : decode cX11_link 1 = .ok (.iload_n 1, 1) := by decide +kernel
theorem dX11_link_2 : decode cX11_link 2 = .ok (.iload_n 2, 1) := by decide +kernel
theorem dX11_link_3 : decode cX11_link 3 = .ok (.invokevirtual 100, 3) := by decide +kernel
theorem dX11_link_6 : decode cX11_link 6 = .ok (.ifCond .eq 15, 3) := by decide +kernel
theorem dX11_link_9 : decode cX11_link 9 = .ok (.iload_n 3, 1) := by decide +kernel
theorem dX11_link_10 : decode cX11_link 10 = .ok (.i2l, 1) := by decide +kernel
theorem dX11_link_11 : decode cX11_link 11 = .ok (.lconst 0, 1) := by decide +kernel
theorem dX11_link_12 : decode cX11_link 12 = .ok (.ldc2_w 104, 3) := by decide +kernel
theorem dX11_link_15 : decode cX11_link 15 = .ok (.invokestatic 88, 3) := by decide +kernel
theorem dX11_link_18 : decode cX11_link 18 = .ok (.ifCond .ne 5, 3) := by decide +kernel
theorem dX11_link_21 : decode cX11_link 21 = .ok (.iconst (-1), 1) := by decide +kernel
theorem dX11_link_22 : decode cX11_link 22 = .ok (.ireturn, 1) := by decide +kernel
theorem dX11_link_23 : decode cX11_link 23 = .ok (.aload_n 0, 1) := by decide +kernel
theorem dX11_link_24 : decode cX11_link 24 = .ok (.getfield 7, 3) := by decide +kernel
theorem dX11_link_27 : decode cX11_link 27 = .ok (.iconst 1, 1) := by decide +kernel
theorem dX11_link_28 : decode cX11_link 28 = .ok (.iload_n 1, 1) := by decide +kernel
theorem dX11_link_29 : decode cX11_link 29 = .ok (.iload_n 2, 1) := by decide +kernel
theorem dX11_link_30 : decode cX11_link 30 = .ok (.invokestatic 96, 3) := by decide +kernel
theorem dX11_link_33 : decode cX11_link 33 = .ok (.iadd, 1) := by decide +kernel
theorem dX11_link_34 : decode cX11_link 34 = .ok (.iaload, 1) := by decide +kernel
theorem dX11_link_35 : decode cX11_link 35 = .ok (.istore 4, 2) := by decide +kernel
theorem dX11_link_37 : decode cX11_link 37 = .ok (.iload 4, 2) := by decide +kernel
theorem dX11_link_39 : decode cX11_link 39 = .ok (.iload_n 3, 1) := by decide +kernel
theorem dX11_link_40 : decode cX11_link 40 = .ok (.if_icmp .ne 22, 3) := by decide +kernel
theorem dX11_link_43 : decode cX11_link 43 = .ok (.aload_n 0, 1) := by decide +kernel
theorem dX11_link_44 : decode cX11_link 44 = .ok (.getfield 7, 3) := by decide +kernel
theorem dX11_link_47 : decode cX11_link 47 = .ok (.bipush 37, 2) := by decide +kernel
theorem dX11_link_49 : decode cX11_link 49 = .ok (.iload_n 1, 1) := by decide +kernel
theorem dX11_link_50 : decode cX11_link 50 = .ok (.iload_n 2, 1) := by decide +kernel
theorem dX11_link_51 : decode cX11_link 51 = .ok (.invokestatic 96, 3) := by decide +kernel
theorem dX11_link_54 : decode cX11_link 54 = .ok (.iadd, 1) := by decide +kernel
theorem dX11_link_55 : decode cX11_link 55 = .ok (.iaload, 1) := by decide +kernel
theorem dX11_link_56 : decode cX11_link 56 = .ok (.ifCond .ne 6, 3) := by decide +kernel
theorem dX11_link_59 : decode cX11_link 59 = .ok (.bipush (-2), 2) := by decide +kernel
theorem dX11_link_61 : decode cX11_link 61 = .ok (.ireturn, 1) := by decide +kernel
theorem dX11_link_62 : decode cX11_link 62 = .ok (.aload_n 0, 1) := by decide +kernel
theorem dX11_link_63 : decode cX11_link 63 = .ok (.invokevirtual 106, 3) := by decide +kernel
theorem dX11_link_66 : decode cX11_link 66 = .ok (.aload_n 0, 1) := by decide +kernel
theorem dX11_link_67 : decode cX11_link 67 = .ok (.iload_n 1, 1) := by decide +kernel
theorem dX11_link_68 : decode cX11_link 68 = .ok (.iload_n 2, 1) := by decide +kernel
theorem dX11_link_69 : decode cX11_link 69 = .ok (.iload_n 3, 1) := by decide +kernel
theorem dX11_link_70 : decode cX11_link 70 = .ok (.iconst 0, 1) := by decide +kernel
theorem dX11_link_71 : decode cX11_link 71 = .ok (.invokevirtual 109, 3) := by decide +kernel
theorem dX11_link_74 : decode cX11_link 74 = .ok (.iload 4, 2) := by decide +kernel
theorem dX11_link_76 : decode cX11_link 76 = .ok (.ireturn, 1) := by decide +kernel
theorem dX11_cut_0 : decode cX11_cut 0 = .ok (.aload_n 0, 1) := by decide +kernel
theorem dX11_cut_1 : decode cX11_cut 1 = .ok (.iload_n 1, 1) := by decide +kernel
theorem dX11_cut_2 : decode cX11_cut 2 = .ok (.iload_n 2, 1) := by decide +kernel
theorem dX11_cut_3 : decode cX11_cut 3 = .ok (.invokevirtual 100, 3) := by decide +kernel
theorem dX11_cut_6 : decode cX11_cut 6 = .ok (.ifCond .ne 5, 3) := by decide +kernel
theorem dX11_cut_9 : decode cX11_cut 9 = .ok (.iconst (-1), 1) := by decide +kernel
theorem dX11_cut_10 : decode cX11_cut 10 = .ok (.ireturn, 1) := by decide +kernel
theorem dX11_cut_11 : decode cX11_cut 11 = .ok (.aload_n 0, 1) := by decide +kernel
theorem dX11_cut_12 : decode cX11_cut 12 = .ok (.getfield 7, 3) := by decide +kernel
theorem dX11_cut_15 : decode cX11_cut 15 = .ok (.iconst 1, 1) := by decide +kernel
theorem dX11_cut_16 : decode cX11_cut 16 = .ok (.iload_n 1, 1) := by decide +kernel
theorem dX11_cut_17 : decode cX11_cut 17 = .ok (.iload_n 2, 1) := by decide +kernel
theorem dX11_cut_18 : decode cX11_cut 18 = .ok (.invokestatic 96, 3) := by decide +kernel
theorem dX11_cut_21 : decode cX11_cut 21 = .ok (.iadd, 1) := by decide +kernel
theorem dX11_cut_22 : decode cX11_cut 22 = .ok (.iaload, 1) := by decide +kernel
theorem dX11_cut_23 : decode cX11_cut 23 = .ok (.istore_n 3, 1) := by decide +kernel
theorem dX11_cut_24 : decode cX11_cut 24 = .ok (.iload_n 3, 1) := by decide +kernel
theorem dX11_cut_25 : decode cX11_cut 25 = .ok (.ifCond .ne 6, 3) := by decide +kernel
theorem dX11_cut_28 : decode cX11_cut 28 = .ok (.bipush (-4), 2) := by decide +kernel
theorem dX11_cut_30 : decode cX11_cut 30 = .ok (.ireturn, 1) := by decide +kernel
theorem dX11_cut_31 : decode cX11_cut 31 = .ok (.aload_n 0, 1) := by decide +kernel
theorem dX11_cut_32 : decode cX11_cut 32 = .ok (.invokevirtual 106, 3) := by decide +kernel
theorem dX11_cut_35 : decode cX11_cut 35 = .ok (.aload_n 0, 1) := by decide +kernel
theorem dX11_cut_36 : decode cX11_cut 36 = .ok (.iload_n 1, 1) := by decide +kernel
theorem dX11_cut_37 : decode cX11_cut 37 = .ok (.iload_n 2, 1) := by decide +kernel
theorem dX11_cut_38 : decode cX11_cut 38 = .ok (.iload_n 3, 1) := by decide +kernel
theorem dX11_cut_39 : decode cX11_cut 39 = .ok (.iconst 1, 1) := by decide +kernel
theorem dX11_cut_40 : decode cX11_cut 40 = .ok (.aload_n 0, 1) := by decide +kernel
theorem dX11_cut_41 : decode cX11_cut 41 = .ok (.getfield 7, 3) := by decide +kernel
theorem dX11_cut_44 : decode cX11_cut 44 = .ok (.bipush 37, 2) := by decide +kernel
theorem dX11_cut_46 : decode cX11_cut 46 = .ok (.iload_n 1, 1) := by decide +kernel
theorem dX11_cut_47 : decode cX11_cut 47 = .ok (.iload_n 2, 1) := by decide +kernel
theorem dX11_cut_48 : decode cX11_cut 48 = .ok (.invokestatic 96, 3) := by decide +kernel
theorem dX11_cut_51 : decode cX11_cut 51 = .ok (.iadd, 1) := by decide +kernel
theorem dX11_cut_52 : decode cX11_cut 52 = .ok (.iaload, 1) := by decide +kernel
theorem dX11_cut_53 : decode cX11_cut 53 = .ok (.isub, 1) := by decide +kernel
theorem dX11_cut_54 : decode cX11_cut 54 = .ok (.invokevirtual 109, 3) := by decide +kernel
theorem dX11_cut_57 : decode cX11_cut 57 = .ok (.aload_n 0, 1) := by decide +kernel
theorem dX11_cut_58 : decode cX11_cut 58 = .ok (.getfield 7, 3) := by decide +kernel
theorem dX11_cut_61 : decode cX11_cut 61 = .ok (.bipush 37, 2) := by decide +kernel
theorem dX11_cut_63 : decode cX11_cut 63 = .ok (.iload_n 1, 1) := by decide +kernel
theorem dX11_cut_64 : decode cX11_cut 64 = .ok (.iload_n 2, 1) := by decide +kernel
theorem dX11_cut_65 : decode cX11_cut 65 = .ok (.invokestatic 96, 3) := by decide +kernel
theorem dX11_cut_68 : decode cX11_cut 68 = .ok (.iadd, 1) := by decide +kernel
theorem dX11_cut_69 : decode cX11_cut 69 = .ok (.iaload, 1) := by decide +kernel
theorem dX11_cut_70 : decode cX11_cut 70 = .ok (.ireturn, 1) := by decide +kernel
theorem dX11_becomes_0 : decode cX11_becomes 0 = .ok (.aload_n 0, 1) := by decide +kernel
theorem dX11_becomes_1 : decode cX11_becomes 1 = .ok (.getfield 7, 3) := by decide +kernel
theorem dX11_becomes_4 : decode cX11_becomes 4 = .ok (.iload_n 1, 1) := by decide +kernel
theorem dX11_becomes_5 : decode cX11_becomes 5 = .ok (.iaload, 1) := by decide +kernel
theorem dX11_becomes_6 : decode cX11_becomes 6 = .ok (.istore_n 3, 1) := by decide +kernel
theorem dX11_becomes_7 : decode cX11_becomes 7 = .ok (.iload_n 3, 1) := by decide +kernel
theorem dX11_becomes_8 : decode cX11_becomes 8 = .ok (.iload_n 2, 1) := by decide +kernel
theorem dX11_becomes_9 : decode cX11_becomes 9 = .ok (.if_icmp .ne 6, 3) := by decide +kernel
theorem dX11_becomes_12 : decode cX11_becomes 12 = .ok (.bipush (-2), 2) := by decide +kernel
theorem dX11_becomes_14 : decode cX11_becomes 14 = .ok (.ireturn, 1) := by decide +kernel
theorem dX11_becomes_15 : decode cX11_becomes 15 = .ok (.aload_n 0, 1) := by decide +kernel
theorem dX11_becomes_16 : decode cX11_becomes 16 = .ok (.invokevirtual 106, 3) := by decide +kernel
theorem dX11_becomes_19 : decode cX11_becomes 19 = .ok (.aload_n 0, 1) := by decide +kernel
theorem dX11_becomes_20 : decode cX11_becomes 20 = .ok (.getfield 7, 3) := by decide +kernel
theorem dX11_becomes_23 : decode cX11_becomes 23 = .ok (.iload_n 1, 1) := by decide +kernel
theorem dX11_becomes_24 : decode cX11_becomes 24 = .ok (.iload_n 2, 1) := by decide +kernel
theorem dX11_becomes_25 : decode cX11_becomes 25 = .ok (.iastore, 1) := by decide +kernel
theorem dX11_becomes_26 : decode cX11_becomes 26 = .ok (.iload_n 3, 1) := by decide +kernel
theorem dX11_becomes_27 : decode cX11_becomes 27 = .ok (.ireturn, 1) := by decide +kernel
theorem dX11_like_0 : decode cX11_like 0 = .ok (.aload_n 0, 1) := by decide +kernel
theorem dX11_like_1 : decode cX11_like 1 = .ok (.iload_n 1, 1) := by decide +kernel
theorem dX11_like_2 : decode cX11_like 2 = .ok (.iload_n 2, 1) := by decide +kernel
theorem dX11_like_3 : decode cX11_like 3 = .ok (.invokevirtual 100, 3) := by decide +kernel
theorem dX11_like_6 : decode cX11_like 6 = .ok (.ifCond .eq 31, 3) := by decide +kernel
theorem dX11_like_9 : decode cX11_like 9 = .ok (.iload_n 3, 1) := by decide +kernel
theorem dX11_like_10 : decode cX11_like 10 = .ok (.i2l, 1) := by decide +kernel
theorem dX11_like_11 : decode cX11_like 11 = .ok (.lconst 0, 1) := by decide +kernel
theorem dX11_like_12 : decode cX11_like 12 = .ok (.ldc2_w 113, 3) := by decide +kernel
theorem dX11_like_15 : decode cX11_like 15 = .ok (.invokestatic 88, 3) := by decide +kernel
theorem dX11_like_18 : decode cX11_like 18 = .ok (.ifCond .eq 19, 3) := by decide +kernel
theorem dX11_like_21 : decode cX11_like 21 = .ok (.aload_n 0, 1) := by decide +kernel
theorem dX11_like_22 : decode cX11_like 22 = .ok (.bipush 73, 2) := by decide +kernel
theorem dX11_like_24 : decode cX11_like 24 = .ok (.iload_n 1, 1) := by decide +kernel
theorem dX11_like_25 : decode cX11_like 25 = .ok (.iload_n 2, 1) := by decide +kernel
theorem dX11_like_26 : decode cX11_like 26 = .ok (.invokestatic 96, 3) := by decide +kernel
theorem dX11_like_29 : decode cX11_like 29 = .ok (.iadd, 1) := by decide +kernel
theorem dX11_like_30 : decode cX11_like 30 = .ok (.iload_n 3, 1) := by decide +kernel
theorem dX11_like_31 : decode cX11_like 31 = .ok (.invokevirtual 115, 3) := by decide +kernel
theorem dX11_like_34 : decode cX11_like 34 = .ok (.goto 4, 3) := by decide +kernel
theorem dX11_like_37 : decode cX11_like 37 = .ok (.iconst (-1), 1) := by decide +kernel
theorem dX11_like_38 : decode cX11_like 38 = .ok (.ireturn, 1) := by decide +kernel
theorem dX11_manner_0 : decode cX11_manner 0 = .ok (.aload_n 0, 1) := by decide +kernel
theorem dX11_manner_1 : decode cX11_manner 1 = .ok (.iload_n 1, 1) := by decide +kernel
theorem dX11_manner_2 : decode cX11_manner 2 = .ok (.invokevirtual 92, 3) := by decide +kernel
theorem dX11_manner_5 : decode cX11_manner 5 = .ok (.ifCond .eq 27, 3) := by decide +kernel
theorem dX11_manner_8 : decode cX11_manner 8 = .ok (.iload_n 2, 1) := by decide +kernel
theorem dX11_manner_9 : decode cX11_manner 9 = .ok (.i2l, 1) := by decide +kernel
theorem dX11_manner_10 : decode cX11_manner 10 = .ok (.lconst 0, 1) := by decide +kernel
theorem dX11_manner_11 : decode cX11_manner 11 = .ok (.ldc2_w 104, 3) := by decide +kernel
theorem dX11_manner_14 : decode cX11_manner 14 = .ok (.invokestatic 88, 3) := by decide +kernel
theorem dX11_manner_17 : decode cX11_manner 17 = .ok (.ifCond .eq 15, 3) := by decide +kernel
theorem dX11_manner_20 : decode cX11_manner 20 = .ok (.aload_n 0, 1) := by decide +kernel
theorem dX11_manner_21 : decode cX11_manner 21 = .ok (.bipush 109, 2) := by decide +kernel
theorem dX11_manner_23 : decode cX11_manner 23 = .ok (.iload_n 1, 1) := by decide +kernel
theorem dX11_manner_24 : decode cX11_manner 24 = .ok (.iadd, 1) := by decide +kernel
theorem dX11_manner_25 : decode cX11_manner 25 = .ok (.iload_n 2, 1) := by decide +kernel
theorem dX11_manner_26 : decode cX11_manner 26 = .ok (.invokevirtual 115, 3) := by decide +kernel
theorem dX11_manner_29 : decode cX11_manner 29 = .ok (.goto 4, 3) := by decide +kernel
theorem dX11_manner_32 : decode cX11_manner 32 = .ok (.iconst (-1), 1) := by decide +kernel
theorem dX11_manner_33 : decode cX11_manner 33 = .ok (.ireturn, 1) := by decide +kernel
theorem dX11_bar_0 : decode cX11_bar 0 = .ok (.aload_n 0, 1) := by decide +kernel
theorem dX11_bar_1 : decode cX11_bar 1 = .ok (.iload_n 1, 1) := by decide +kernel
theorem dX11_bar_2 : decode cX11_bar 2 = .ok (.invokevirtual 92, 3) := by decide +kernel
theorem dX11_bar_5 : decode cX11_bar 5 = .ok (.ifCond .eq 35, 3) := by decide +kernel
theorem dX11_bar_8 : decode cX11_bar 8 = .ok (.iload_n 2, 1) := by decide +kernel
theorem dX11_bar_9 : decode cX11_bar 9 = .ok (.i2l, 1) := by decide +kernel
theorem dX11_bar_10 : decode cX11_bar 10 = .ok (.lconst 0, 1) := by decide +kernel
theorem dX11_bar_11 : decode cX11_bar 11 = .ok (.iconst 1, 1) := by decide +kernel
theorem dX11_bar_12 : decode cX11_bar 12 = .ok (.aload_n 0, 1) := by decide +kernel
theorem dX11_bar_13 : decode cX11_bar 13 = .ok (.getfield 7, 3) := by decide +kernel
theorem dX11_bar_16 : decode cX11_bar 16 = .ok (.iconst 0, 1) := by decide +kernel
theorem dX11_bar_17 : decode cX11_bar 17 = .ok (.iaload, 1) := by decide +kernel
theorem dX11_bar_18 : decode cX11_bar 18 = .ok (.ishl, 1) := by decide +kernel
theorem dX11_bar_19 : decode cX11_bar 19 = .ok (.iconst 1, 1) := by decide +kernel
theorem dX11_bar_20 : decode cX11_bar 20 = .ok (.isub, 1) := by decide +kernel
theorem dX11_bar_21 : decode cX11_bar 21 = .ok (.i2l, 1) := by decide +kernel
theorem dX11_bar_22 : decode cX11_bar 22 = .ok (.invokestatic 88, 3) := by decide +kernel
theorem dX11_bar_25 : decode cX11_bar 25 = .ok (.ifCond .eq 15, 3) := by decide +kernel
theorem dX11_bar_28 : decode cX11_bar 28 = .ok (.iload_n 2, 1) := by decide +kernel
theorem dX11_bar_29 : decode cX11_bar 29 = .ok (.iload_n 1, 1) := by decide +kernel
theorem dX11_bar_30 : decode cX11_bar 30 = .ok (.invokestatic 118, 3) := by decide +kernel
theorem dX11_bar_33 : decode cX11_bar 33 = .ok (.ifCond .ne 7, 3) := by decide +kernel
theorem dX11_bar_36 : decode cX11_bar 36 = .ok (.iconst 1, 1) := by decide +kernel
theorem dX11_bar_37 : decode cX11_bar 37 = .ok (.goto 4, 3) := by decide +kernel
theorem dX11_bar_40 : decode cX11_bar 40 = .ok (.iconst 0, 1) := by decide +kernel
theorem dX11_bar_41 : decode cX11_bar 41 = .ok (.istore_n 3, 1) := by decide +kernel
theorem dX11_bar_42 : decode cX11_bar 42 = .ok (.iload_n 3, 1) := by decide +kernel
theorem dX11_bar_43 : decode cX11_bar 43 = .ok (.ifCond .eq 15, 3) := by decide +kernel
theorem dX11_bar_46 : decode cX11_bar 46 = .ok (.aload_n 0, 1) := by decide +kernel
theorem dX11_bar_47 : decode cX11_bar 47 = .ok (.bipush 115, 2) := by decide +kernel
theorem dX11_bar_49 : decode cX11_bar 49 = .ok (.iload_n 1, 1) := by decide +kernel
theorem dX11_bar_50 : decode cX11_bar 50 = .ok (.iadd, 1) := by decide +kernel
theorem dX11_bar_51 : decode cX11_bar 51 = .ok (.iload_n 2, 1) := by decide +kernel
theorem dX11_bar_52 : decode cX11_bar 52 = .ok (.invokevirtual 115, 3) := by decide +kernel
theorem dX11_bar_55 : decode cX11_bar 55 = .ok (.goto 4, 3) := by decide +kernel
theorem dX11_bar_58 : decode cX11_bar 58 = .ok (.iconst (-1), 1) := by decide +kernel
theorem dX11_bar_59 : decode cX11_bar 59 = .ok (.ireturn, 1) := by decide +kernel
theorem dX11_domains_0 : decode cX11_domains 0 = .ok (.iload_n 1, 1) := by decide +kernel
theorem dX11_domains_1 : decode cX11_domains 1 = .ok (.i2l, 1) := by decide +kernel
theorem dX11_domains_2 : decode cX11_domains 2 = .ok (.ldc2_w 121, 3) := by decide +kernel
theorem dX11_domains_5 : decode cX11_domains 5 = .ok (.ldc2_w 123, 3) := by decide +kernel
theorem dX11_domains_8 : decode cX11_domains 8 = .ok (.invokestatic 88, 3) := by decide +kernel
theorem dX11_domains_11 : decode cX11_domains 11 = .ok (.ifCond .ne 5, 3) := by decide +kernel
theorem dX11_domains_14 : decode cX11_domains 14 = .ok (.iconst (-1), 1) := by decide +kernel
theorem dX11_domains_15 : decode cX11_domains 15 = .ok (.ireturn, 1) := by decide +kernel
theorem dX11_domains_16 : decode cX11_domains 16 = .ok (.aload_n 0, 1) := by decide +kernel
theorem dX11_domains_17 : decode cX11_domains 17 = .ok (.getfield 7, 3) := by decide +kernel
theorem dX11_domains_20 : decode cX11_domains 20 = .ok (.iconst 0, 1) := by decide +kernel
theorem dX11_domains_21 : decode cX11_domains 21 = .ok (.iaload, 1) := by decide +kernel
theorem dX11_domains_22 : decode cX11_domains 22 = .ok (.istore_n 2, 1) := by decide +kernel
theorem dX11_domains_23 : decode cX11_domains 23 = .ok (.iload_n 2, 1) := by decide +kernel
theorem dX11_domains_24 : decode cX11_domains 24 = .ok (.iload_n 1, 1) := by decide +kernel
theorem dX11_domains_25 : decode cX11_domains 25 = .ok (.if_icmp .ne 6, 3) := by decide +kernel
theorem dX11_domains_28 : decode cX11_domains 28 = .ok (.bipush (-2), 2) := by decide +kernel
theorem dX11_domains_30 : decode cX11_domains 30 = .ok (.ireturn, 1) := by decide +kernel
theorem dX11_domains_31 : decode cX11_domains 31 = .ok (.aload_n 0, 1) := by decide +kernel
theorem dX11_domains_32 : decode cX11_domains 32 = .ok (.invokevirtual 106, 3) := by decide +kernel
theorem dX11_domains_35 : decode cX11_domains 35 = .ok (.aload_n 0, 1) := by decide +kernel
theorem dX11_domains_36 : decode cX11_domains 36 = .ok (.getfield 7, 3) := by decide +kernel
theorem dX11_domains_39 : decode cX11_domains 39 = .ok (.iconst 0, 1) := by decide +kernel
theorem dX11_domains_40 : decode cX11_domains 40 = .ok (.iload_n 1, 1) := by decide +kernel
theorem dX11_domains_41 : decode cX11_domains 41 = .ok (.iastore, 1) := by decide +kernel
theorem dX11_domains_42 : decode cX11_domains 42 = .ok (.iconst 0, 1) := by decide +kernel
theorem dX11_domains_43 : decode cX11_domains 43 = .ok (.istore_n 3, 1) := by decide +kernel
theorem dX11_domains_44 : decode cX11_domains 44 = .ok (.iload_n 3, 1) := by decide +kernel
theorem dX11_domains_45 : decode cX11_domains 45 = .ok (.bipush 6, 2) := by decide +kernel
theorem dX11_domains_47 : decode cX11_domains 47 = .ok (.if_icmp .ge 159, 3) := by decide +kernel
theorem dX11_domains_50 : decode cX11_domains 50 = .ok (.iconst 0, 1) := by decide +kernel
theorem dX11_domains_51 : decode cX11_domains 51 = .ok (.istore 4, 2) := by decide +kernel
theorem dX11_domains_53 : decode cX11_domains 53 = .ok (.iload 4, 2) := by decide +kernel
theorem dX11_domains_55 : decode cX11_domains 55 = .ok (.bipush 6, 2) := by decide +kernel
theorem dX11_domains_57 : decode cX11_domains 57 = .ok (.if_icmp .ge 64, 3) := by decide +kernel
theorem dX11_domains_60 : decode cX11_domains 60 = .ok (.iload_n 3, 1) := by decide +kernel
theorem dX11_domains_61 : decode cX11_domains 61 = .ok (.iload_n 1, 1) := by decide +kernel
theorem dX11_domains_62 : decode cX11_domains 62 = .ok (.if_icmp .ge 9, 3) := by decide +kernel
theorem dX11_domains_65 : decode cX11_domains 65 = .ok (.iload 4, 2) := by decide +kernel
theorem dX11_domains_67 : decode cX11_domains 67 = .ok (.iload_n 1, 1) := by decide +kernel
theorem dX11_domains_68 : decode cX11_domains 68 = .ok (.if_icmp .lt 47, 3) := by decide +kernel
theorem dX11_domains_71 : decode cX11_domains 71 = .ok (.aload_n 0, 1) := by decide +kernel
theorem dX11_domains_72 : decode cX11_domains 72 = .ok (.getfield 7, 3) := by decide +kernel
theorem dX11_domains_75 : decode cX11_domains 75 = .ok (.iconst 1, 1) := by decide +kernel
theorem dX11_domains_76 : decode cX11_domains 76 = .ok (.iload_n 3, 1) := by decide +kernel
theorem dX11_domains_77 : decode cX11_domains 77 = .ok (.iload 4, 2) := by decide +kernel
theorem dX11_domains_79 : decode cX11_domains 79 = .ok (.invokestatic 96, 3) := by decide +kernel
theorem dX11_domains_82 : decode cX11_domains 82 = .ok (.iadd, 1) := by decide +kernel
theorem dX11_domains_83 : decode cX11_domains 83 = .ok (.iconst 0, 1) := by decide +kernel
theorem dX11_domains_84 : decode cX11_domains 84 = .ok (.iastore, 1) := by decide +kernel
theorem dX11_domains_85 : decode cX11_domains 85 = .ok (.aload_n 0, 1) := by decide +kernel
theorem dX11_domains_86 : decode cX11_domains 86 = .ok (.getfield 7, 3) := by decide +kernel
theorem dX11_domains_89 : decode cX11_domains 89 = .ok (.bipush 37, 2) := by decide +kernel
theorem dX11_domains_91 : decode cX11_domains 91 = .ok (.iload_n 3, 1) := by decide +kernel
theorem dX11_domains_92 : decode cX11_domains 92 = .ok (.iload 4, 2) := by decide +kernel
theorem dX11_domains_94 : decode cX11_domains 94 = .ok (.invokestatic 96, 3) := by decide +kernel
theorem dX11_domains_97 : decode cX11_domains 97 = .ok (.iadd, 1) := by decide +kernel
theorem dX11_domains_98 : decode cX11_domains 98 = .ok (.iconst 0, 1) := by decide +kernel
theorem dX11_domains_99 : decode cX11_domains 99 = .ok (.iastore, 1) := by decide +kernel
theorem dX11_domains_100 : decode cX11_domains 100 = .ok (.aload_n 0, 1) := by decide +kernel
theorem dX11_domains_101 : decode cX11_domains 101 = .ok (.getfield 7, 3) := by decide +kernel
theorem dX11_domains_104 : decode cX11_domains 104 = .ok (.bipush 73, 2) := by decide +kernel
theorem dX11_domains_106 : decode cX11_domains 106 = .ok (.iload_n 3, 1) := by decide +kernel
theorem dX11_domains_107 : decode cX11_domains 107 = .ok (.iload 4, 2) := by decide +kernel
theorem dX11_domains_109 : decode cX11_domains 109 = .ok (.invokestatic 96, 3) := by decide +kernel
theorem dX11_domains_112 : decode cX11_domains 112 = .ok (.iadd, 1) := by decide +kernel
theorem dX11_domains_113 : decode cX11_domains 113 = .ok (.iconst 0, 1) := by decide +kernel
theorem dX11_domains_114 : decode cX11_domains 114 = .ok (.iastore, 1) := by decide +kernel
theorem dX11_domains_115 : decode cX11_domains 115 = .ok (.iinc 4 1, 3) := by decide +kernel
theorem dX11_domains_118 : decode cX11_domains 118 = .ok (.goto (-65), 3) := by decide +kernel
theorem dX11_domains_121 : decode cX11_domains 121 = .ok (.aload_n 0, 1) := by decide +kernel
theorem dX11_domains_122 : decode cX11_domains 122 = .ok (.getfield 7, 3) := by decide +kernel
theorem dX11_domains_125 : decode cX11_domains 125 = .ok (.bipush 109, 2) := by decide +kernel
theorem dX11_domains_127 : decode cX11_domains 127 = .ok (.iload_n 3, 1) := by decide +kernel
theorem dX11_domains_128 : decode cX11_domains 128 = .ok (.iadd, 1) := by decide +kernel
theorem dX11_domains_129 : decode cX11_domains 129 = .ok (.iload_n 3, 1) := by decide +kernel
theorem dX11_domains_130 : decode cX11_domains 130 = .ok (.iload_n 1, 1) := by decide +kernel
theorem dX11_domains_131 : decode cX11_domains 131 = .ok (.if_icmp .lt 7, 3) := by decide +kernel
theorem dX11_domains_134 : decode cX11_domains 134 = .ok (.iconst 3, 1) := by decide +kernel
theorem dX11_domains_135 : decode cX11_domains 135 = .ok (.goto 12, 3) := by decide +kernel
theorem dX11_domains_138 : decode cX11_domains 138 = .ok (.aload_n 0, 1) := by decide +kernel
theorem dX11_domains_139 : decode cX11_domains 139 = .ok (.getfield 7, 3) := by decide +kernel
theorem dX11_domains_142 : decode cX11_domains 142 = .ok (.bipush 109, 2) := by decide +kernel
theorem dX11_domains_144 : decode cX11_domains 144 = .ok (.iload_n 3, 1) := by decide +kernel
theorem dX11_domains_145 : decode cX11_domains 145 = .ok (.iadd, 1) := by decide +kernel
theorem dX11_domains_146 : decode cX11_domains 146 = .ok (.iaload, 1) := by decide +kernel
theorem dX11_domains_147 : decode cX11_domains 147 = .ok (.iastore, 1) := by decide +kernel
theorem dX11_domains_148 : decode cX11_domains 148 = .ok (.aload_n 0, 1) := by decide +kernel
theorem dX11_domains_149 : decode cX11_domains 149 = .ok (.getfield 7, 3) := by decide +kernel
theorem dX11_domains_152 : decode cX11_domains 152 = .ok (.bipush 115, 2) := by decide +kernel
theorem dX11_domains_154 : decode cX11_domains 154 = .ok (.iload_n 3, 1) := by decide +kernel
theorem dX11_domains_155 : decode cX11_domains 155 = .ok (.iadd, 1) := by decide +kernel
theorem dX11_domains_156 : decode cX11_domains 156 = .ok (.iload_n 3, 1) := by decide +kernel
theorem dX11_domains_157 : decode cX11_domains 157 = .ok (.iload_n 1, 1) := by decide +kernel
theorem dX11_domains_158 : decode cX11_domains 158 = .ok (.if_icmp .lt 7, 3) := by decide +kernel
theorem dX11_domains_161 : decode cX11_domains 161 = .ok (.iconst 0, 1) := by decide +kernel
theorem dX11_domains_162 : decode cX11_domains 162 = .ok (.goto 18, 3) := by decide +kernel
theorem dX11_domains_165 : decode cX11_domains 165 = .ok (.aload_n 0, 1) := by decide +kernel
theorem dX11_domains_166 : decode cX11_domains 166 = .ok (.getfield 7, 3) := by decide +kernel
theorem dX11_domains_169 : decode cX11_domains 169 = .ok (.bipush 115, 2) := by decide +kernel
theorem dX11_domains_171 : decode cX11_domains 171 = .ok (.iload_n 3, 1) := by decide +kernel
theorem dX11_domains_172 : decode cX11_domains 172 = .ok (.iadd, 1) := by decide +kernel
theorem dX11_domains_173 : decode cX11_domains 173 = .ok (.iaload, 1) := by decide +kernel
theorem dX11_domains_174 : decode cX11_domains 174 = .ok (.iconst 1, 1) := by decide +kernel
theorem dX11_domains_175 : decode cX11_domains 175 = .ok (.iload_n 1, 1) := by decide +kernel
theorem dX11_domains_176 : decode cX11_domains 176 = .ok (.ishl, 1) := by decide +kernel
theorem dX11_domains_177 : decode cX11_domains 177 = .ok (.iconst 1, 1) := by decide +kernel
theorem dX11_domains_178 : decode cX11_domains 178 = .ok (.isub, 1) := by decide +kernel
theorem dX11_domains_179 : decode cX11_domains 179 = .ok (.iand, 1) := by decide +kernel
theorem dX11_domains_180 : decode cX11_domains 180 = .ok (.iastore, 1) := by decide +kernel
theorem dX11_domains_181 : decode cX11_domains 181 = .ok (.aload_n 0, 1) := by decide +kernel
theorem dX11_domains_182 : decode cX11_domains 182 = .ok (.getfield 7, 3) := by decide +kernel
theorem dX11_domains_185 : decode cX11_domains 185 = .ok (.bipush 121, 2) := by decide +kernel
theorem dX11_domains_187 : decode cX11_domains 187 = .ok (.iload_n 3, 1) := by decide +kernel
theorem dX11_domains_188 : decode cX11_domains 188 = .ok (.iadd, 1) := by decide +kernel
theorem dX11_domains_189 : decode cX11_domains 189 = .ok (.iload_n 3, 1) := by decide +kernel
theorem dX11_domains_190 : decode cX11_domains 190 = .ok (.ifCond .ne 7, 3) := by decide +kernel
theorem dX11_domains_193 : decode cX11_domains 193 = .ok (.iconst 0, 1) := by decide +kernel
theorem dX11_domains_194 : decode cX11_domains 194 = .ok (.goto 5, 3) := by decide +kernel
theorem dX11_domains_197 : decode cX11_domains 197 = .ok (.bipush (-4), 2) := by decide +kernel
theorem dX11_domains_199 : decode cX11_domains 199 = .ok (.iastore, 1) := by decide +kernel
theorem dX11_domains_200 : decode cX11_domains 200 = .ok (.iinc 3 1, 3) := by decide +kernel
theorem dX11_domains_203 : decode cX11_domains 203 = .ok (.goto (-159), 3) := by decide +kernel
theorem dX11_domains_206 : decode cX11_domains 206 = .ok (.iload_n 2, 1) := by decide +kernel
theorem dX11_domains_207 : decode cX11_domains 207 = .ok (.ireturn, 1) := by decide +kernel
theorem dX11_told_0 : decode cX11_told 0 = .ok (.aload_n 0, 1) := by decide +kernel
theorem dX11_told_1 : decode cX11_told 1 = .ok (.iload_n 1, 1) := by decide +kernel
theorem dX11_told_2 : decode cX11_told 2 = .ok (.iload_n 2, 1) := by decide +kernel
theorem dX11_told_3 : decode cX11_told 3 = .ok (.invokevirtual 100, 3) := by decide +kernel
theorem dX11_told_6 : decode cX11_told 6 = .ok (.ifCond .ne 5, 3) := by decide +kernel
theorem dX11_told_9 : decode cX11_told 9 = .ok (.iconst (-1), 1) := by decide +kernel
theorem dX11_told_10 : decode cX11_told 10 = .ok (.ireturn, 1) := by decide +kernel
theorem dX11_told_11 : decode cX11_told 11 = .ok (.iload_n 3, 1) := by decide +kernel
theorem dX11_told_12 : decode cX11_told 12 = .ok (.tableswitch 69 0 2 #[28, 41, 55], 28) := by decide +kernel
theorem dX11_told_40 : decode cX11_told 40 = .ok (.aload_n 0, 1) := by decide +kernel
theorem dX11_told_41 : decode cX11_told 41 = .ok (.getfield 7, 3) := by decide +kernel
theorem dX11_told_44 : decode cX11_told 44 = .ok (.iconst 1, 1) := by decide +kernel
theorem dX11_told_45 : decode cX11_told 45 = .ok (.iload_n 1, 1) := by decide +kernel
theorem dX11_told_46 : decode cX11_told 46 = .ok (.iload_n 2, 1) := by decide +kernel
theorem dX11_told_47 : decode cX11_told 47 = .ok (.invokestatic 96, 3) := by decide +kernel
theorem dX11_told_50 : decode cX11_told 50 = .ok (.iadd, 1) := by decide +kernel
theorem dX11_told_51 : decode cX11_told 51 = .ok (.iaload, 1) := by decide +kernel
theorem dX11_told_52 : decode cX11_told 52 = .ok (.ireturn, 1) := by decide +kernel
theorem dX11_told_53 : decode cX11_told 53 = .ok (.aload_n 0, 1) := by decide +kernel
theorem dX11_told_54 : decode cX11_told 54 = .ok (.getfield 7, 3) := by decide +kernel
theorem dX11_told_57 : decode cX11_told 57 = .ok (.bipush 37, 2) := by decide +kernel
theorem dX11_told_59 : decode cX11_told 59 = .ok (.iload_n 1, 1) := by decide +kernel
theorem dX11_told_60 : decode cX11_told 60 = .ok (.iload_n 2, 1) := by decide +kernel
theorem dX11_told_61 : decode cX11_told 61 = .ok (.invokestatic 96, 3) := by decide +kernel
theorem dX11_told_64 : decode cX11_told 64 = .ok (.iadd, 1) := by decide +kernel
theorem dX11_told_65 : decode cX11_told 65 = .ok (.iaload, 1) := by decide +kernel
theorem dX11_told_66 : decode cX11_told 66 = .ok (.ireturn, 1) := by decide +kernel
theorem dX11_told_67 : decode cX11_told 67 = .ok (.aload_n 0, 1) := by decide +kernel
theorem dX11_told_68 : decode cX11_told 68 = .ok (.getfield 7, 3) := by decide +kernel
theorem dX11_told_71 : decode cX11_told 71 = .ok (.bipush 73, 2) := by decide +kernel
theorem dX11_told_73 : decode cX11_told 73 = .ok (.iload_n 1, 1) := by decide +kernel
theorem dX11_told_74 : decode cX11_told 74 = .ok (.iload_n 2, 1) := by decide +kernel
theorem dX11_told_75 : decode cX11_told 75 = .ok (.invokestatic 96, 3) := by decide +kernel
theorem dX11_told_78 : decode cX11_told 78 = .ok (.iadd, 1) := by decide +kernel
theorem dX11_told_79 : decode cX11_told 79 = .ok (.iaload, 1) := by decide +kernel
theorem dX11_told_80 : decode cX11_told 80 = .ok (.ireturn, 1) := by decide +kernel
theorem dX11_told_81 : decode cX11_told 81 = .ok (.iconst (-1), 1) := by decide +kernel
theorem dX11_told_82 : decode cX11_told 82 = .ok (.ireturn, 1) := by decide +kernel
theorem dX11_figures_0 : decode cX11_figures 0 = .ok (.iconst 1, 1) := by decide +kernel
theorem dX11_figures_1 : decode cX11_figures 1 = .ok (.istore_n 1, 1) := by decide +kernel
theorem dX11_figures_2 : decode cX11_figures 2 = .ok (.iload_n 0, 1) := by decide +kernel
theorem dX11_figures_3 : decode cX11_figures 3 = .ok (.bipush 10, 2) := by decide +kernel
theorem dX11_figures_5 : decode cX11_figures 5 = .ok (.idiv, 1) := by decide +kernel
theorem dX11_figures_6 : decode cX11_figures 6 = .ok (.istore_n 2, 1) := by decide +kernel
theorem dX11_figures_7 : decode cX11_figures 7 = .ok (.iload_n 2, 1) := by decide +kernel
theorem dX11_figures_8 : decode cX11_figures 8 = .ok (.ifCond .le 14, 3) := by decide +kernel
theorem dX11_figures_11 : decode cX11_figures 11 = .ok (.iinc 1 1, 3) := by decide +kernel
theorem dX11_figures_14 : decode cX11_figures 14 = .ok (.iload_n 2, 1) := by decide +kernel
theorem dX11_figures_15 : decode cX11_figures 15 = .ok (.bipush 10, 2) := by decide +kernel
theorem dX11_figures_17 : decode cX11_figures 17 = .ok (.idiv, 1) := by decide +kernel
theorem dX11_figures_18 : decode cX11_figures 18 = .ok (.istore_n 2, 1) := by decide +kernel
theorem dX11_figures_19 : decode cX11_figures 19 = .ok (.goto (-12), 3) := by decide +kernel
theorem dX11_figures_22 : decode cX11_figures 22 = .ok (.iload_n 1, 1) := by decide +kernel
theorem dX11_figures_23 : decode cX11_figures 23 = .ok (.ireturn, 1) := by decide +kernel
theorem dX11_figure_0 : decode cX11_figure 0 = .ok (.iload_n 0, 1) := by decide +kernel
theorem dX11_figure_1 : decode cX11_figure 1 = .ok (.istore_n 2, 1) := by decide +kernel
theorem dX11_figure_2 : decode cX11_figure 2 = .ok (.iload_n 0, 1) := by decide +kernel
theorem dX11_figure_3 : decode cX11_figure 3 = .ok (.invokestatic 125, 3) := by decide +kernel
theorem dX11_figure_6 : decode cX11_figure 6 = .ok (.iconst 1, 1) := by decide +kernel
theorem dX11_figure_7 : decode cX11_figure 7 = .ok (.isub, 1) := by decide +kernel
theorem dX11_figure_8 : decode cX11_figure 8 = .ok (.istore_n 3, 1) := by decide +kernel
theorem dX11_figure_9 : decode cX11_figure 9 = .ok (.iload_n 3, 1) := by decide +kernel
theorem dX11_figure_10 : decode cX11_figure 10 = .ok (.iload_n 1, 1) := by decide +kernel
theorem dX11_figure_11 : decode cX11_figure 11 = .ok (.if_icmp .le 14, 3) := by decide +kernel
theorem dX11_figure_14 : decode cX11_figure 14 = .ok (.iload_n 2, 1) := by decide +kernel
theorem dX11_figure_15 : decode cX11_figure 15 = .ok (.bipush 10, 2) := by decide +kernel
theorem dX11_figure_17 : decode cX11_figure 17 = .ok (.idiv, 1) := by decide +kernel
theorem dX11_figure_18 : decode cX11_figure 18 = .ok (.istore_n 2, 1) := by decide +kernel
theorem dX11_figure_19 : decode cX11_figure 19 = .ok (.iinc 3 (-1), 3) := by decide +kernel
theorem dX11_figure_22 : decode cX11_figure 22 = .ok (.goto (-13), 3) := by decide +kernel
theorem dX11_figure_25 : decode cX11_figure 25 = .ok (.iload_n 2, 1) := by decide +kernel
theorem dX11_figure_26 : decode cX11_figure 26 = .ok (.bipush 10, 2) := by decide +kernel
theorem dX11_figure_28 : decode cX11_figure 28 = .ok (.irem, 1) := by decide +kernel
theorem dX11_figure_29 : decode cX11_figure 29 = .ok (.ireturn, 1) := by decide +kernel
theorem dX11_setOf_0 : decode cX11_setOf 0 = .ok (.iconst 0, 1) := by decide +kernel
theorem dX11_setOf_1 : decode cX11_setOf 1 = .ok (.istore_n 1, 1) := by decide +kernel
theorem dX11_setOf_2 : decode cX11_setOf 2 = .ok (.iload_n 0, 1) := by decide +kernel
theorem dX11_setOf_3 : decode cX11_setOf 3 = .ok (.istore_n 2, 1) := by decide +kernel
theorem dX11_setOf_4 : decode cX11_setOf 4 = .ok (.iload_n 0, 1) := by decide +kernel
theorem dX11_setOf_5 : decode cX11_setOf 5 = .ok (.invokestatic 125, 3) := by decide +kernel
theorem dX11_setOf_8 : decode cX11_setOf 8 = .ok (.istore_n 3, 1) := by decide +kernel
theorem dX11_setOf_9 : decode cX11_setOf 9 = .ok (.iload_n 3, 1) := by decide +kernel
theorem dX11_setOf_10 : decode cX11_setOf 10 = .ok (.ifCond .le 23, 3) := by decide +kernel
theorem dX11_setOf_13 : decode cX11_setOf 13 = .ok (.iload_n 1, 1) := by decide +kernel
theorem dX11_setOf_14 : decode cX11_setOf 14 = .ok (.iconst 1, 1) := by decide +kernel
theorem dX11_setOf_15 : decode cX11_setOf 15 = .ok (.iload_n 2, 1) := by decide +kernel
theorem dX11_setOf_16 : decode cX11_setOf 16 = .ok (.bipush 10, 2) := by decide +kernel
theorem dX11_setOf_18 : decode cX11_setOf 18 = .ok (.irem, 1) := by decide +kernel
theorem dX11_setOf_19 : decode cX11_setOf 19 = .ok (.ishl, 1) := by decide +kernel
theorem dX11_setOf_20 : decode cX11_setOf 20 = .ok (.ior, 1) := by decide +kernel
theorem dX11_setOf_21 : decode cX11_setOf 21 = .ok (.istore_n 1, 1) := by decide +kernel
theorem dX11_setOf_22 : decode cX11_setOf 22 = .ok (.iload_n 2, 1) := by decide +kernel
theorem dX11_setOf_23 : decode cX11_setOf 23 = .ok (.bipush 10, 2) := by decide +kernel
theorem dX11_setOf_25 : decode cX11_setOf 25 = .ok (.idiv, 1) := by decide +kernel
theorem dX11_setOf_26 : decode cX11_setOf 26 = .ok (.istore_n 2, 1) := by decide +kernel
theorem dX11_setOf_27 : decode cX11_setOf 27 = .ok (.iinc 3 (-1), 3) := by decide +kernel
theorem dX11_setOf_30 : decode cX11_setOf 30 = .ok (.goto (-21), 3) := by decide +kernel
theorem dX11_setOf_33 : decode cX11_setOf 33 = .ok (.iload_n 1, 1) := by decide +kernel
theorem dX11_setOf_34 : decode cX11_setOf 34 = .ok (.ireturn, 1) := by decide +kernel
theorem dX11_ten_0 : decode cX11_ten 0 = .ok (.iconst 1, 1) := by decide +kernel
theorem dX11_ten_1 : decode cX11_ten 1 = .ok (.istore_n 1, 1) := by decide +kernel
theorem dX11_ten_2 : decode cX11_ten 2 = .ok (.iconst 0, 1) := by decide +kernel
theorem dX11_ten_3 : decode cX11_ten 3 = .ok (.istore_n 2, 1) := by decide +kernel
theorem dX11_ten_4 : decode cX11_ten 4 = .ok (.iload_n 2, 1) := by decide +kernel
theorem dX11_ten_5 : decode cX11_ten 5 = .ok (.iload_n 0, 1) := by decide +kernel
theorem dX11_ten_6 : decode cX11_ten 6 = .ok (.if_icmp .ge 14, 3) := by decide +kernel
theorem dX11_ten_9 : decode cX11_ten 9 = .ok (.iload_n 1, 1) := by decide +kernel
theorem dX11_ten_10 : decode cX11_ten 10 = .ok (.bipush 10, 2) := by decide +kernel
theorem dX11_ten_12 : decode cX11_ten 12 = .ok (.imul, 1) := by decide +kernel
theorem dX11_ten_13 : decode cX11_ten 13 = .ok (.istore_n 1, 1) := by decide +kernel
theorem dX11_ten_14 : decode cX11_ten 14 = .ok (.iinc 2 1, 3) := by decide +kernel
theorem dX11_ten_17 : decode cX11_ten 17 = .ok (.goto (-13), 3) := by decide +kernel
theorem dX11_ten_20 : decode cX11_ten 20 = .ok (.iload_n 1, 1) := by decide +kernel
theorem dX11_ten_21 : decode cX11_ten 21 = .ok (.ireturn, 1) := by decide +kernel
theorem dX11_together_0 : decode cX11_together 0 = .ok (.iload_n 0, 1) := by decide +kernel
theorem dX11_together_1 : decode cX11_together 1 = .ok (.iload_n 1, 1) := by decide +kernel
theorem dX11_together_2 : decode cX11_together 2 = .ok (.invokestatic 125, 3) := by decide +kernel
theorem dX11_together_5 : decode cX11_together 5 = .ok (.invokestatic 129, 3) := by decide +kernel
theorem dX11_together_8 : decode cX11_together 8 = .ok (.imul, 1) := by decide +kernel
theorem dX11_together_9 : decode cX11_together 9 = .ok (.iload_n 1, 1) := by decide +kernel
theorem dX11_together_10 : decode cX11_together 10 = .ok (.iadd, 1) := by decide +kernel
theorem dX11_together_11 : decode cX11_together 11 = .ok (.ireturn, 1) := by decide +kernel
theorem dX11_behind_0 : decode cX11_behind 0 = .ok (.iload_n 0, 1) := by decide +kernel
theorem dX11_behind_1 : decode cX11_behind 1 = .ok (.iload_n 0, 1) := by decide +kernel
theorem dX11_behind_2 : decode cX11_behind 2 = .ok (.invokestatic 125, 3) := by decide +kernel
theorem dX11_behind_5 : decode cX11_behind 5 = .ok (.iconst 1, 1) := by decide +kernel
theorem dX11_behind_6 : decode cX11_behind 6 = .ok (.isub, 1) := by decide +kernel
theorem dX11_behind_7 : decode cX11_behind 7 = .ok (.invokestatic 129, 3) := by decide +kernel
theorem dX11_behind_10 : decode cX11_behind 10 = .ok (.irem, 1) := by decide +kernel
theorem dX11_behind_11 : decode cX11_behind 11 = .ok (.ireturn, 1) := by decide +kernel
theorem dX11_isCustomer_0 : decode cX11_isCustomer 0 = .ok (.aload_n 0, 1) := by decide +kernel
theorem dX11_isCustomer_1 : decode cX11_isCustomer 1 = .ok (.getfield 7, 3) := by decide +kernel
theorem dX11_isCustomer_4 : decode cX11_isCustomer 4 = .ok (.iconst 1, 1) := by decide +kernel
theorem dX11_isCustomer_5 : decode cX11_isCustomer 5 = .ok (.iload_n 1, 1) := by decide +kernel
theorem dX11_isCustomer_6 : decode cX11_isCustomer 6 = .ok (.iload_n 2, 1) := by decide +kernel
theorem dX11_isCustomer_7 : decode cX11_isCustomer 7 = .ok (.invokestatic 96, 3) := by decide +kernel
theorem dX11_isCustomer_10 : decode cX11_isCustomer 10 = .ok (.iadd, 1) := by decide +kernel
theorem dX11_isCustomer_11 : decode cX11_isCustomer 11 = .ok (.iaload, 1) := by decide +kernel
theorem dX11_isCustomer_12 : decode cX11_isCustomer 12 = .ok (.iconst 1, 1) := by decide +kernel
theorem dX11_isCustomer_13 : decode cX11_isCustomer 13 = .ok (.if_icmp .ne 7, 3) := by decide +kernel
theorem dX11_isCustomer_16 : decode cX11_isCustomer 16 = .ok (.iconst 1, 1) := by decide +kernel
theorem dX11_isCustomer_17 : decode cX11_isCustomer 17 = .ok (.goto 4, 3) := by decide +kernel
theorem dX11_isCustomer_20 : decode cX11_isCustomer 20 = .ok (.iconst 0, 1) := by decide +kernel
theorem dX11_isCustomer_21 : decode cX11_isCustomer 21 = .ok (.ireturn, 1) := by decide +kernel
theorem dX11_lets_0 : decode cX11_lets 0 = .ok (.aload_n 0, 1) := by decide +kernel
theorem dX11_lets_1 : decode cX11_lets 1 = .ok (.getfield 7, 3) := by decide +kernel
theorem dX11_lets_4 : decode cX11_lets 4 = .ok (.bipush 109, 2) := by decide +kernel
theorem dX11_lets_6 : decode cX11_lets 6 = .ok (.iload_n 1, 1) := by decide +kernel
theorem dX11_lets_7 : decode cX11_lets 7 = .ok (.iadd, 1) := by decide +kernel
theorem dX11_lets_8 : decode cX11_lets 8 = .ok (.iaload, 1) := by decide +kernel
theorem dX11_lets_9 : decode cX11_lets 9 = .ok (.iconst 2, 1) := by decide +kernel
theorem dX11_lets_10 : decode cX11_lets 10 = .ok (.iand, 1) := by decide +kernel
theorem dX11_lets_11 : decode cX11_lets 11 = .ok (.ifCond .eq 25, 3) := by decide +kernel
theorem dX11_lets_14 : decode cX11_lets 14 = .ok (.aload_n 0, 1) := by decide +kernel
theorem dX11_lets_15 : decode cX11_lets 15 = .ok (.iload_n 1, 1) := by decide +kernel
theorem dX11_lets_16 : decode cX11_lets 16 = .ok (.iload_n 2, 1) := by decide +kernel
theorem dX11_lets_17 : decode cX11_lets 17 = .ok (.invokevirtual 132, 3) := by decide +kernel
theorem dX11_lets_20 : decode cX11_lets 20 = .ok (.ifCond .ne 16, 3) := by decide +kernel
theorem dX11_lets_23 : decode cX11_lets 23 = .ok (.iload_n 3, 1) := by decide +kernel
theorem dX11_lets_24 : decode cX11_lets 24 = .ok (.ifCond .lt 12, 3) := by decide +kernel
theorem dX11_lets_27 : decode cX11_lets 27 = .ok (.aload_n 0, 1) := by decide +kernel
theorem dX11_lets_28 : decode cX11_lets 28 = .ok (.iload_n 1, 1) := by decide +kernel
theorem dX11_lets_29 : decode cX11_lets 29 = .ok (.iload_n 3, 1) := by decide +kernel
theorem dX11_lets_30 : decode cX11_lets 30 = .ok (.invokevirtual 132, 3) := by decide +kernel
theorem dX11_lets_33 : decode cX11_lets 33 = .ok (.ifCond .eq 7, 3) := by decide +kernel
theorem dX11_lets_36 : decode cX11_lets 36 = .ok (.iconst 1, 1) := by decide +kernel
theorem dX11_lets_37 : decode cX11_lets 37 = .ok (.goto 4, 3) := by decide +kernel
theorem dX11_lets_40 : decode cX11_lets 40 = .ok (.iconst 0, 1) := by decide +kernel
theorem dX11_lets_41 : decode cX11_lets 41 = .ok (.ireturn, 1) := by decide +kernel
theorem dX11_areLinked_0 : decode cX11_areLinked 0 = .ok (.aload_n 0, 1) := by decide +kernel
theorem dX11_areLinked_1 : decode cX11_areLinked 1 = .ok (.getfield 7, 3) := by decide +kernel
theorem dX11_areLinked_4 : decode cX11_areLinked 4 = .ok (.iconst 1, 1) := by decide +kernel
theorem dX11_areLinked_5 : decode cX11_areLinked 5 = .ok (.iload_n 1, 1) := by decide +kernel
theorem dX11_areLinked_6 : decode cX11_areLinked 6 = .ok (.iload_n 2, 1) := by decide +kernel
theorem dX11_areLinked_7 : decode cX11_areLinked 7 = .ok (.invokestatic 96, 3) := by decide +kernel
theorem dX11_areLinked_10 : decode cX11_areLinked 10 = .ok (.iadd, 1) := by decide +kernel
theorem dX11_areLinked_11 : decode cX11_areLinked 11 = .ok (.iaload, 1) := by decide +kernel
theorem dX11_areLinked_12 : decode cX11_areLinked 12 = .ok (.ifCond .le 23, 3) := by decide +kernel
theorem dX11_areLinked_15 : decode cX11_areLinked 15 = .ok (.aload_n 0, 1) := by decide +kernel
theorem dX11_areLinked_16 : decode cX11_areLinked 16 = .ok (.getfield 7, 3) := by decide +kernel
theorem dX11_areLinked_19 : decode cX11_areLinked 19 = .ok (.bipush 37, 2) := by decide +kernel
theorem dX11_areLinked_21 : decode cX11_areLinked 21 = .ok (.iload_n 1, 1) := by decide +kernel
theorem dX11_areLinked_22 : decode cX11_areLinked 22 = .ok (.iload_n 2, 1) := by decide +kernel
theorem dX11_areLinked_23 : decode cX11_areLinked 23 = .ok (.invokestatic 96, 3) := by decide +kernel
theorem dX11_areLinked_26 : decode cX11_areLinked 26 = .ok (.iadd, 1) := by decide +kernel
theorem dX11_areLinked_27 : decode cX11_areLinked 27 = .ok (.iaload, 1) := by decide +kernel
theorem dX11_areLinked_28 : decode cX11_areLinked 28 = .ok (.ifCond .ne 7, 3) := by decide +kernel
theorem dX11_areLinked_31 : decode cX11_areLinked 31 = .ok (.iconst 1, 1) := by decide +kernel
theorem dX11_areLinked_32 : decode cX11_areLinked 32 = .ok (.goto 4, 3) := by decide +kernel
theorem dX11_areLinked_35 : decode cX11_areLinked 35 = .ok (.iconst 0, 1) := by decide +kernel
theorem dX11_areLinked_36 : decode cX11_areLinked 36 = .ok (.ireturn, 1) := by decide +kernel
theorem dX11_second_0 : decode cX11_second 0 = .ok (.iload_n 0, 1) := by decide +kernel
theorem dX11_second_1 : decode cX11_second 1 = .ok (.ifCond .ne 7, 3) := by decide +kernel
theorem dX11_second_4 : decode cX11_second 4 = .ok (.iconst (-1), 1) := by decide +kernel
theorem dX11_second_5 : decode cX11_second 5 = .ok (.goto 8, 3) := by decide +kernel
theorem dX11_second_8 : decode cX11_second 8 = .ok (.iload_n 0, 1) := by decide +kernel
theorem dX11_second_9 : decode cX11_second 9 = .ok (.iconst 1, 1) := by decide +kernel
theorem dX11_second_10 : decode cX11_second 10 = .ok (.invokestatic 135, 3) := by decide +kernel
theorem dX11_second_13 : decode cX11_second 13 = .ok (.ireturn, 1) := by decide +kernel
theorem dX11_takes_0 : decode cX11_takes 0 = .ok (.iload_n 2, 1) := by decide +kernel
theorem dX11_takes_1 : decode cX11_takes 1 = .ok (.iconst 0, 1) := by decide +kernel
theorem dX11_takes_2 : decode cX11_takes 2 = .ok (.invokestatic 135, 3) := by decide +kernel
theorem dX11_takes_5 : decode cX11_takes 5 = .ok (.istore_n 3, 1) := by decide +kernel
theorem dX11_takes_6 : decode cX11_takes 6 = .ok (.iload_n 2, 1) := by decide +kernel
theorem dX11_takes_7 : decode cX11_takes 7 = .ok (.invokestatic 138, 3) := by decide +kernel
theorem dX11_takes_10 : decode cX11_takes 10 = .ok (.istore 4, 2) := by decide +kernel
theorem dX11_takes_12 : decode cX11_takes 12 = .ok (.aload_n 0, 1) := by decide +kernel
theorem dX11_takes_13 : decode cX11_takes 13 = .ok (.iload_n 1, 1) := by decide +kernel
theorem dX11_takes_14 : decode cX11_takes 14 = .ok (.iload_n 3, 1) := by decide +kernel
theorem dX11_takes_15 : decode cX11_takes 15 = .ok (.invokevirtual 141, 3) := by decide +kernel
theorem dX11_takes_18 : decode cX11_takes 18 = .ok (.ifCond .eq 44, 3) := by decide +kernel
theorem dX11_takes_21 : decode cX11_takes 21 = .ok (.iload 4, 2) := by decide +kernel
theorem dX11_takes_23 : decode cX11_takes 23 = .ok (.iload_n 1, 1) := by decide +kernel
theorem dX11_takes_24 : decode cX11_takes 24 = .ok (.invokestatic 118, 3) := by decide +kernel
theorem dX11_takes_27 : decode cX11_takes 27 = .ok (.ifCond .ne 35, 3) := by decide +kernel
theorem dX11_takes_30 : decode cX11_takes 30 = .ok (.aload_n 0, 1) := by decide +kernel
theorem dX11_takes_31 : decode cX11_takes 31 = .ok (.getfield 7, 3) := by decide +kernel
theorem dX11_takes_34 : decode cX11_takes 34 = .ok (.bipush 115, 2) := by decide +kernel
theorem dX11_takes_36 : decode cX11_takes 36 = .ok (.iload_n 1, 1) := by decide +kernel
theorem dX11_takes_37 : decode cX11_takes 37 = .ok (.iadd, 1) := by decide +kernel
theorem dX11_takes_38 : decode cX11_takes 38 = .ok (.iaload, 1) := by decide +kernel
theorem dX11_takes_39 : decode cX11_takes 39 = .ok (.iload 4, 2) := by decide +kernel
theorem dX11_takes_41 : decode cX11_takes 41 = .ok (.iand, 1) := by decide +kernel
theorem dX11_takes_42 : decode cX11_takes 42 = .ok (.ifCond .ne 20, 3) := by decide +kernel
theorem dX11_takes_45 : decode cX11_takes 45 = .ok (.aload_n 0, 1) := by decide +kernel
theorem dX11_takes_46 : decode cX11_takes 46 = .ok (.iload_n 3, 1) := by decide +kernel
theorem dX11_takes_47 : decode cX11_takes 47 = .ok (.iload_n 1, 1) := by decide +kernel
theorem dX11_takes_48 : decode cX11_takes 48 = .ok (.iload_n 2, 1) := by decide +kernel
theorem dX11_takes_49 : decode cX11_takes 49 = .ok (.invokestatic 144, 3) := by decide +kernel
theorem dX11_takes_52 : decode cX11_takes 52 = .ok (.invokevirtual 147, 3) := by decide +kernel
theorem dX11_takes_55 : decode cX11_takes 55 = .ok (.ifCond .eq 7, 3) := by decide +kernel
theorem dX11_takes_58 : decode cX11_takes 58 = .ok (.iconst 1, 1) := by decide +kernel
theorem dX11_takes_59 : decode cX11_takes 59 = .ok (.goto 4, 3) := by decide +kernel
theorem dX11_takes_62 : decode cX11_takes 62 = .ok (.iconst 0, 1) := by decide +kernel
theorem dX11_takes_63 : decode cX11_takes 63 = .ok (.ireturn, 1) := by decide +kernel
theorem dX11_isBetter_0 : decode cX11_isBetter 0 = .ok (.iload_n 2, 1) := by decide +kernel
theorem dX11_isBetter_1 : decode cX11_isBetter 1 = .ok (.iconst 1, 1) := by decide +kernel
theorem dX11_isBetter_2 : decode cX11_isBetter 2 = .ok (.invokestatic 135, 3) := by decide +kernel
theorem dX11_isBetter_5 : decode cX11_isBetter 5 = .ok (.istore 4, 2) := by decide +kernel
theorem dX11_isBetter_7 : decode cX11_isBetter 7 = .ok (.iload_n 3, 1) := by decide +kernel
theorem dX11_isBetter_8 : decode cX11_isBetter 8 = .ok (.iconst 1, 1) := by decide +kernel
theorem dX11_isBetter_9 : decode cX11_isBetter 9 = .ok (.invokestatic 135, 3) := by decide +kernel
theorem dX11_isBetter_12 : decode cX11_isBetter 12 = .ok (.istore 5, 2) := by decide +kernel
theorem dX11_isBetter_14 : decode cX11_isBetter 14 = .ok (.aload_n 0, 1) := by decide +kernel
theorem dX11_isBetter_15 : decode cX11_isBetter 15 = .ok (.getfield 7, 3) := by decide +kernel
theorem dX11_isBetter_18 : decode cX11_isBetter 18 = .ok (.iconst 1, 1) := by decide +kernel
theorem dX11_isBetter_19 : decode cX11_isBetter 19 = .ok (.iload_n 1, 1) := by decide +kernel
theorem dX11_isBetter_20 : decode cX11_isBetter 20 = .ok (.iload 4, 2) := by decide +kernel
theorem dX11_isBetter_22 : decode cX11_isBetter 22 = .ok (.invokestatic 96, 3) := by decide +kernel
theorem dX11_isBetter_25 : decode cX11_isBetter 25 = .ok (.iadd, 1) := by decide +kernel
theorem dX11_isBetter_26 : decode cX11_isBetter 26 = .ok (.iaload, 1) := by decide +kernel
theorem dX11_isBetter_27 : decode cX11_isBetter 27 = .ok (.aload_n 0, 1) := by decide +kernel
theorem dX11_isBetter_28 : decode cX11_isBetter 28 = .ok (.getfield 7, 3) := by decide +kernel
theorem dX11_isBetter_31 : decode cX11_isBetter 31 = .ok (.iconst 1, 1) := by decide +kernel
theorem dX11_isBetter_32 : decode cX11_isBetter 32 = .ok (.iload_n 1, 1) := by decide +kernel
theorem dX11_isBetter_33 : decode cX11_isBetter 33 = .ok (.iload 5, 2) := by decide +kernel
theorem dX11_isBetter_35 : decode cX11_isBetter 35 = .ok (.invokestatic 96, 3) := by decide +kernel
theorem dX11_isBetter_38 : decode cX11_isBetter 38 = .ok (.iadd, 1) := by decide +kernel
theorem dX11_isBetter_39 : decode cX11_isBetter 39 = .ok (.iaload, 1) := by decide +kernel
theorem dX11_isBetter_40 : decode cX11_isBetter 40 = .ok (.isub, 1) := by decide +kernel
theorem dX11_isBetter_41 : decode cX11_isBetter 41 = .ok (.istore 6, 2) := by decide +kernel
theorem dX11_isBetter_43 : decode cX11_isBetter 43 = .ok (.aload_n 0, 1) := by decide +kernel
theorem dX11_isBetter_44 : decode cX11_isBetter 44 = .ok (.getfield 7, 3) := by decide +kernel
theorem dX11_isBetter_47 : decode cX11_isBetter 47 = .ok (.bipush 109, 2) := by decide +kernel
theorem dX11_isBetter_49 : decode cX11_isBetter 49 = .ok (.iload_n 1, 1) := by decide +kernel
theorem dX11_isBetter_50 : decode cX11_isBetter 50 = .ok (.iadd, 1) := by decide +kernel
theorem dX11_isBetter_51 : decode cX11_isBetter 51 = .ok (.iaload, 1) := by decide +kernel
theorem dX11_isBetter_52 : decode cX11_isBetter 52 = .ok (.iconst 1, 1) := by decide +kernel
theorem dX11_isBetter_53 : decode cX11_isBetter 53 = .ok (.iand, 1) := by decide +kernel
theorem dX11_isBetter_54 : decode cX11_isBetter 54 = .ok (.iconst 1, 1) := by decide +kernel
theorem dX11_isBetter_55 : decode cX11_isBetter 55 = .ok (.if_icmp .ne 19, 3) := by decide +kernel
theorem dX11_isBetter_58 : decode cX11_isBetter 58 = .ok (.iload 6, 2) := by decide +kernel
theorem dX11_isBetter_60 : decode cX11_isBetter 60 = .ok (.ifCond .eq 14, 3) := by decide +kernel
theorem dX11_isBetter_63 : decode cX11_isBetter 63 = .ok (.iload 6, 2) := by decide +kernel
theorem dX11_isBetter_65 : decode cX11_isBetter 65 = .ok (.ifCond .ge 7, 3) := by decide +kernel
theorem dX11_isBetter_68 : decode cX11_isBetter 68 = .ok (.iconst 1, 1) := by decide +kernel
theorem dX11_isBetter_69 : decode cX11_isBetter 69 = .ok (.goto 4, 3) := by decide +kernel
theorem dX11_isBetter_72 : decode cX11_isBetter 72 = .ok (.iconst 0, 1) := by decide +kernel
theorem dX11_isBetter_73 : decode cX11_isBetter 73 = .ok (.ireturn, 1) := by decide +kernel
theorem dX11_isBetter_74 : decode cX11_isBetter 74 = .ok (.aload_n 0, 1) := by decide +kernel
theorem dX11_isBetter_75 : decode cX11_isBetter 75 = .ok (.getfield 7, 3) := by decide +kernel
theorem dX11_isBetter_78 : decode cX11_isBetter 78 = .ok (.bipush 73, 2) := by decide +kernel
theorem dX11_isBetter_80 : decode cX11_isBetter 80 = .ok (.iload_n 1, 1) := by decide +kernel
theorem dX11_isBetter_81 : decode cX11_isBetter 81 = .ok (.iload 4, 2) := by decide +kernel
theorem dX11_isBetter_83 : decode cX11_isBetter 83 = .ok (.invokestatic 96, 3) := by decide +kernel
theorem dX11_isBetter_86 : decode cX11_isBetter 86 = .ok (.iadd, 1) := by decide +kernel
theorem dX11_isBetter_87 : decode cX11_isBetter 87 = .ok (.iaload, 1) := by decide +kernel
theorem dX11_isBetter_88 : decode cX11_isBetter 88 = .ok (.aload_n 0, 1) := by decide +kernel
theorem dX11_isBetter_89 : decode cX11_isBetter 89 = .ok (.getfield 7, 3) := by decide +kernel
theorem dX11_isBetter_92 : decode cX11_isBetter 92 = .ok (.bipush 73, 2) := by decide +kernel
theorem dX11_isBetter_94 : decode cX11_isBetter 94 = .ok (.iload_n 1, 1) := by decide +kernel
theorem dX11_isBetter_95 : decode cX11_isBetter 95 = .ok (.iload 5, 2) := by decide +kernel
theorem dX11_isBetter_97 : decode cX11_isBetter 97 = .ok (.invokestatic 96, 3) := by decide +kernel
theorem dX11_isBetter_100 : decode cX11_isBetter 100 = .ok (.iadd, 1) := by decide +kernel
theorem dX11_isBetter_101 : decode cX11_isBetter 101 = .ok (.iaload, 1) := by decide +kernel
theorem dX11_isBetter_102 : decode cX11_isBetter 102 = .ok (.isub, 1) := by decide +kernel
theorem dX11_isBetter_103 : decode cX11_isBetter 103 = .ok (.istore 7, 2) := by decide +kernel
theorem dX11_isBetter_105 : decode cX11_isBetter 105 = .ok (.iload 7, 2) := by decide +kernel
theorem dX11_isBetter_107 : decode cX11_isBetter 107 = .ok (.ifCond .eq 14, 3) := by decide +kernel
theorem dX11_isBetter_110 : decode cX11_isBetter 110 = .ok (.iload 7, 2) := by decide +kernel
theorem dX11_isBetter_112 : decode cX11_isBetter 112 = .ok (.ifCond .le 7, 3) := by decide +kernel
theorem dX11_isBetter_115 : decode cX11_isBetter 115 = .ok (.iconst 1, 1) := by decide +kernel
theorem dX11_isBetter_116 : decode cX11_isBetter 116 = .ok (.goto 4, 3) := by decide +kernel
theorem dX11_isBetter_119 : decode cX11_isBetter 119 = .ok (.iconst 0, 1) := by decide +kernel
theorem dX11_isBetter_120 : decode cX11_isBetter 120 = .ok (.ireturn, 1) := by decide +kernel
theorem dX11_isBetter_121 : decode cX11_isBetter 121 = .ok (.iload_n 2, 1) := by decide +kernel
theorem dX11_isBetter_122 : decode cX11_isBetter 122 = .ok (.invokestatic 125, 3) := by decide +kernel
theorem dX11_isBetter_125 : decode cX11_isBetter 125 = .ok (.iload_n 3, 1) := by decide +kernel
theorem dX11_isBetter_126 : decode cX11_isBetter 126 = .ok (.invokestatic 125, 3) := by decide +kernel
theorem dX11_isBetter_129 : decode cX11_isBetter 129 = .ok (.if_icmp .eq 22, 3) := by decide +kernel
theorem dX11_isBetter_132 : decode cX11_isBetter 132 = .ok (.iload_n 2, 1) := by decide +kernel
theorem dX11_isBetter_133 : decode cX11_isBetter 133 = .ok (.invokestatic 125, 3) := by decide +kernel
theorem dX11_isBetter_136 : decode cX11_isBetter 136 = .ok (.iload_n 3, 1) := by decide +kernel
theorem dX11_isBetter_137 : decode cX11_isBetter 137 = .ok (.invokestatic 125, 3) := by decide +kernel
theorem dX11_isBetter_140 : decode cX11_isBetter 140 = .ok (.if_icmp .ge 7, 3) := by decide +kernel
theorem dX11_isBetter_143 : decode cX11_isBetter 143 = .ok (.iconst 1, 1) := by decide +kernel
theorem dX11_isBetter_144 : decode cX11_isBetter 144 = .ok (.goto 17, 3) := by decide +kernel
theorem dX11_isBetter_147 : decode cX11_isBetter 147 = .ok (.iconst 0, 1) := by decide +kernel
theorem dX11_isBetter_148 : decode cX11_isBetter 148 = .ok (.goto 13, 3) := by decide +kernel
theorem dX11_isBetter_151 : decode cX11_isBetter 151 = .ok (.iload_n 2, 1) := by decide +kernel
theorem dX11_isBetter_152 : decode cX11_isBetter 152 = .ok (.iload_n 3, 1) := by decide +kernel
theorem dX11_isBetter_153 : decode cX11_isBetter 153 = .ok (.if_icmp .ge 7, 3) := by decide +kernel
theorem dX11_isBetter_156 : decode cX11_isBetter 156 = .ok (.iconst 1, 1) := by decide +kernel
theorem dX11_isBetter_157 : decode cX11_isBetter 157 = .ok (.goto 4, 3) := by decide +kernel
theorem dX11_isBetter_160 : decode cX11_isBetter 160 = .ok (.iconst 0, 1) := by decide +kernel
theorem dX11_isBetter_161 : decode cX11_isBetter 161 = .ok (.ireturn, 1) := by decide +kernel
theorem dX11_laysWays_0 : decode cX11_laysWays 0 = .ok (.aload_n 0, 1) := by decide +kernel
theorem dX11_laysWays_1 : decode cX11_laysWays 1 = .ok (.iconst 1, 1) := by decide +kernel
theorem dX11_laysWays_2 : decode cX11_laysWays 2 = .ok (.putfield 151, 3) := by decide +kernel
theorem dX11_laysWays_5 : decode cX11_laysWays 5 = .ok (.aload_n 0, 1) := by decide +kernel
theorem dX11_laysWays_6 : decode cX11_laysWays 6 = .ok (.getfield 39, 3) := by decide +kernel
theorem dX11_laysWays_9 : decode cX11_laysWays 9 = .ok (.iconst 0, 1) := by decide +kernel
theorem dX11_laysWays_10 : decode cX11_laysWays 10 = .ok (.iconst 0, 1) := by decide +kernel
theorem dX11_laysWays_11 : decode cX11_laysWays 11 = .ok (.iastore, 1) := by decide +kernel
theorem dX11_laysWays_12 : decode cX11_laysWays 12 = .ok (.aload_n 0, 1) := by decide +kernel
theorem dX11_laysWays_13 : decode cX11_laysWays 13 = .ok (.getfield 42, 3) := by decide +kernel
theorem dX11_laysWays_16 : decode cX11_laysWays 16 = .ok (.iconst 0, 1) := by decide +kernel
theorem dX11_laysWays_17 : decode cX11_laysWays 17 = .ok (.iconst 0, 1) := by decide +kernel
theorem dX11_laysWays_18 : decode cX11_laysWays 18 = .ok (.iastore, 1) := by decide +kernel
theorem dX11_laysWays_19 : decode cX11_laysWays 19 = .ok (.iconst 0, 1) := by decide +kernel
theorem dX11_laysWays_20 : decode cX11_laysWays 20 = .ok (.istore_n 1, 1) := by decide +kernel
theorem dX11_laysWays_21 : decode cX11_laysWays 21 = .ok (.iload_n 1, 1) := by decide +kernel
theorem dX11_laysWays_22 : decode cX11_laysWays 22 = .ok (.aload_n 0, 1) := by decide +kernel
theorem dX11_laysWays_23 : decode cX11_laysWays 23 = .ok (.getfield 151, 3) := by decide +kernel
theorem dX11_laysWays_26 : decode cX11_laysWays 26 = .ok (.if_icmp .ge 80, 3) := by decide +kernel
theorem dX11_laysWays_29 : decode cX11_laysWays 29 = .ok (.iconst 1, 1) := by decide +kernel
theorem dX11_laysWays_30 : decode cX11_laysWays 30 = .ok (.istore_n 2, 1) := by decide +kernel
theorem dX11_laysWays_31 : decode cX11_laysWays 31 = .ok (.iload_n 2, 1) := by decide +kernel
theorem dX11_laysWays_32 : decode cX11_laysWays 32 = .ok (.aload_n 0, 1) := by decide +kernel
theorem dX11_laysWays_33 : decode cX11_laysWays 33 = .ok (.getfield 7, 3) := by decide +kernel
theorem dX11_laysWays_36 : decode cX11_laysWays 36 = .ok (.iconst 0, 1) := by decide +kernel
theorem dX11_laysWays_37 : decode cX11_laysWays 37 = .ok (.iaload, 1) := by decide +kernel
theorem dX11_laysWays_38 : decode cX11_laysWays 38 = .ok (.if_icmp .ge 62, 3) := by decide +kernel
theorem dX11_laysWays_41 : decode cX11_laysWays 41 = .ok (.aload_n 0, 1) := by decide +kernel
theorem dX11_laysWays_42 : decode cX11_laysWays 42 = .ok (.iload_n 2, 1) := by decide +kernel
theorem dX11_laysWays_43 : decode cX11_laysWays 43 = .ok (.aload_n 0, 1) := by decide +kernel
theorem dX11_laysWays_44 : decode cX11_laysWays 44 = .ok (.getfield 39, 3) := by decide +kernel
theorem dX11_laysWays_47 : decode cX11_laysWays 47 = .ok (.iload_n 1, 1) := by decide +kernel
theorem dX11_laysWays_48 : decode cX11_laysWays 48 = .ok (.iaload, 1) := by decide +kernel
theorem dX11_laysWays_49 : decode cX11_laysWays 49 = .ok (.invokevirtual 154, 3) := by decide +kernel
theorem dX11_laysWays_52 : decode cX11_laysWays 52 = .ok (.ifCond .eq 42, 3) := by decide +kernel
theorem dX11_laysWays_55 : decode cX11_laysWays 55 = .ok (.aload_n 0, 1) := by decide +kernel
theorem dX11_laysWays_56 : decode cX11_laysWays 56 = .ok (.getfield 39, 3) := by decide +kernel
theorem dX11_laysWays_59 : decode cX11_laysWays 59 = .ok (.aload_n 0, 1) := by decide +kernel
theorem dX11_laysWays_60 : decode cX11_laysWays 60 = .ok (.getfield 151, 3) := by decide +kernel
theorem dX11_laysWays_63 : decode cX11_laysWays 63 = .ok (.iload_n 2, 1) := by decide +kernel
theorem dX11_laysWays_64 : decode cX11_laysWays 64 = .ok (.aload_n 0, 1) := by decide +kernel
theorem dX11_laysWays_65 : decode cX11_laysWays 65 = .ok (.getfield 39, 3) := by decide +kernel
theorem dX11_laysWays_68 : decode cX11_laysWays 68 = .ok (.iload_n 1, 1) := by decide +kernel
theorem dX11_laysWays_69 : decode cX11_laysWays 69 = .ok (.iaload, 1) := by decide +kernel
theorem dX11_laysWays_70 : decode cX11_laysWays 70 = .ok (.invokestatic 157, 3) := by decide +kernel
theorem dX11_laysWays_73 : decode cX11_laysWays 73 = .ok (.iastore, 1) := by decide +kernel
theorem dX11_laysWays_74 : decode cX11_laysWays 74 = .ok (.aload_n 0, 1) := by decide +kernel
theorem dX11_laysWays_75 : decode cX11_laysWays 75 = .ok (.getfield 42, 3) := by decide +kernel
theorem dX11_laysWays_78 : decode cX11_laysWays 78 = .ok (.aload_n 0, 1) := by decide +kernel
theorem dX11_laysWays_79 : decode cX11_laysWays 79 = .ok (.getfield 151, 3) := by decide +kernel
theorem dX11_laysWays_82 : decode cX11_laysWays 82 = .ok (.iload_n 2, 1) := by decide +kernel
theorem dX11_laysWays_83 : decode cX11_laysWays 83 = .ok (.iastore, 1) := by decide +kernel
theorem dX11_laysWays_84 : decode cX11_laysWays 84 = .ok (.aload_n 0, 1) := by decide +kernel
theorem dX11_laysWays_85 : decode cX11_laysWays 85 = .ok (.dup, 1) := by decide +kernel
theorem dX11_laysWays_86 : decode cX11_laysWays 86 = .ok (.getfield 151, 3) := by decide +kernel
theorem dX11_laysWays_89 : decode cX11_laysWays 89 = .ok (.iconst 1, 1) := by decide +kernel
theorem dX11_laysWays_90 : decode cX11_laysWays 90 = .ok (.iadd, 1) := by decide +kernel
theorem dX11_laysWays_91 : decode cX11_laysWays 91 = .ok (.putfield 151, 3) := by decide +kernel
theorem dX11_laysWays_94 : decode cX11_laysWays 94 = .ok (.iinc 2 1, 3) := by decide +kernel
theorem dX11_laysWays_97 : decode cX11_laysWays 97 = .ok (.goto (-66), 3) := by decide +kernel
theorem dX11_laysWays_100 : decode cX11_laysWays 100 = .ok (.iinc 1 1, 3) := by decide +kernel
theorem dX11_laysWays_103 : decode cX11_laysWays 103 = .ok (.goto (-82), 3) := by decide +kernel
theorem dX11_laysWays_106 : decode cX11_laysWays 106 = .ok (.return_, 1) := by decide +kernel
theorem dX11_permittedTo_0 : decode cX11_permittedTo 0 = .ok (.iconst 0, 1) := by decide +kernel
theorem dX11_permittedTo_1 : decode cX11_permittedTo 1 = .ok (.istore_n 2, 1) := by decide +kernel
theorem dX11_permittedTo_2 : decode cX11_permittedTo 2 = .ok (.iconst 0, 1) := by decide +kernel
theorem dX11_permittedTo_3 : decode cX11_permittedTo 3 = .ok (.istore_n 3, 1) := by decide +kernel
theorem dX11_permittedTo_4 : decode cX11_permittedTo 4 = .ok (.iload_n 3, 1) := by decide +kernel
theorem dX11_permittedTo_5 : decode cX11_permittedTo 5 = .ok (.aload_n 0, 1) := by decide +kernel
theorem dX11_permittedTo_6 : decode cX11_permittedTo 6 = .ok (.getfield 151, 3) := by decide +kernel
theorem dX11_permittedTo_9 : decode cX11_permittedTo 9 = .ok (.if_icmp .ge 27, 3) := by decide +kernel
theorem dX11_permittedTo_12 : decode cX11_permittedTo 12 = .ok (.iload_n 2, 1) := by decide +kernel
theorem dX11_permittedTo_13 : decode cX11_permittedTo 13 = .ok (.aload_n 0, 1) := by decide +kernel
theorem dX11_permittedTo_14 : decode cX11_permittedTo 14 = .ok (.getfield 42, 3) := by decide +kernel
theorem dX11_permittedTo_17 : decode cX11_permittedTo 17 = .ok (.iload_n 3, 1) := by decide +kernel
theorem dX11_permittedTo_18 : decode cX11_permittedTo 18 = .ok (.iaload, 1) := by decide +kernel
theorem dX11_permittedTo_19 : decode cX11_permittedTo 19 = .ok (.iload_n 1, 1) := by decide +kernel
theorem dX11_permittedTo_20 : decode cX11_permittedTo 20 = .ok (.if_icmp .ne 7, 3) := by decide +kernel
theorem dX11_permittedTo_23 : decode cX11_permittedTo 23 = .ok (.iconst 1, 1) := by decide +kernel
theorem dX11_permittedTo_24 : decode cX11_permittedTo 24 = .ok (.goto 4, 3) := by decide +kernel
theorem dX11_permittedTo_27 : decode cX11_permittedTo 27 = .ok (.iconst 0, 1) := by decide +kernel
theorem dX11_permittedTo_28 : decode cX11_permittedTo 28 = .ok (.iadd, 1) := by decide +kernel
theorem dX11_permittedTo_29 : decode cX11_permittedTo 29 = .ok (.istore_n 2, 1) := by decide +kernel
theorem dX11_permittedTo_30 : decode cX11_permittedTo 30 = .ok (.iinc 3 1, 3) := by decide +kernel
theorem dX11_permittedTo_33 : decode cX11_permittedTo 33 = .ok (.goto (-29), 3) := by decide +kernel
theorem dX11_permittedTo_36 : decode cX11_permittedTo 36 = .ok (.iload_n 2, 1) := by decide +kernel
theorem dX11_permittedTo_37 : decode cX11_permittedTo 37 = .ok (.ireturn, 1) := by decide +kernel
theorem dX11_way_0 : decode cX11_way 0 = .ok (.aload_n 0, 1) := by decide +kernel
theorem dX11_way_1 : decode cX11_way 1 = .ok (.iload_n 1, 1) := by decide +kernel
theorem dX11_way_2 : decode cX11_way 2 = .ok (.invokevirtual 92, 3) := by decide +kernel
theorem dX11_way_5 : decode cX11_way 5 = .ok (.ifCond .eq 7, 3) := by decide +kernel
theorem dX11_way_8 : decode cX11_way 8 = .ok (.iload_n 2, 1) := by decide +kernel
theorem dX11_way_9 : decode cX11_way 9 = .ok (.ifCond .ge 5, 3) := by decide +kernel
theorem dX11_way_12 : decode cX11_way 12 = .ok (.iconst (-1), 1) := by decide +kernel
theorem dX11_way_13 : decode cX11_way 13 = .ok (.ireturn, 1) := by decide +kernel
theorem dX11_way_14 : decode cX11_way 14 = .ok (.aload_n 0, 1) := by decide +kernel
theorem dX11_way_15 : decode cX11_way 15 = .ok (.invokevirtual 160, 3) := by decide +kernel
theorem dX11_way_18 : decode cX11_way 18 = .ok (.iconst 0, 1) := by decide +kernel
theorem dX11_way_19 : decode cX11_way 19 = .ok (.istore_n 3, 1) := by decide +kernel
theorem dX11_way_20 : decode cX11_way 20 = .ok (.iload_n 3, 1) := by decide +kernel
theorem dX11_way_21 : decode cX11_way 21 = .ok (.aload_n 0, 1) := by decide +kernel
theorem dX11_way_22 : decode cX11_way 22 = .ok (.getfield 151, 3) := by decide +kernel
theorem dX11_way_25 : decode cX11_way 25 = .ok (.if_icmp .ge 105, 3) := by decide +kernel
theorem dX11_way_28 : decode cX11_way 28 = .ok (.iconst 0, 1) := by decide +kernel
theorem dX11_way_29 : decode cX11_way 29 = .ok (.istore 4, 2) := by decide +kernel
theorem dX11_way_31 : decode cX11_way 31 = .ok (.iconst 0, 1) := by decide +kernel
theorem dX11_way_32 : decode cX11_way 32 = .ok (.istore 5, 2) := by decide +kernel
theorem dX11_way_34 : decode cX11_way 34 = .ok (.iload 5, 2) := by decide +kernel
theorem dX11_way_36 : decode cX11_way 36 = .ok (.aload_n 0, 1) := by decide +kernel
theorem dX11_way_37 : decode cX11_way 37 = .ok (.getfield 151, 3) := by decide +kernel
theorem dX11_way_40 : decode cX11_way 40 = .ok (.if_icmp .ge 61, 3) := by decide +kernel
theorem dX11_way_43 : decode cX11_way 43 = .ok (.iload 4, 2) := by decide +kernel
theorem dX11_way_45 : decode cX11_way 45 = .ok (.iload_n 1, 1) := by decide +kernel
theorem dX11_way_46 : decode cX11_way 46 = .ok (.ifCond .le 45, 3) := by decide +kernel
theorem dX11_way_49 : decode cX11_way 49 = .ok (.aload_n 0, 1) := by decide +kernel
theorem dX11_way_50 : decode cX11_way 50 = .ok (.getfield 42, 3) := by decide +kernel
theorem dX11_way_53 : decode cX11_way 53 = .ok (.iload 5, 2) := by decide +kernel
theorem dX11_way_55 : decode cX11_way 55 = .ok (.iaload, 1) := by decide +kernel
theorem dX11_way_56 : decode cX11_way 56 = .ok (.iload_n 1, 1) := by decide +kernel
theorem dX11_way_57 : decode cX11_way 57 = .ok (.if_icmp .ne 34, 3) := by decide +kernel
theorem dX11_way_60 : decode cX11_way 60 = .ok (.iload 5, 2) := by decide +kernel
theorem dX11_way_62 : decode cX11_way 62 = .ok (.iload_n 3, 1) := by decide +kernel
theorem dX11_way_63 : decode cX11_way 63 = .ok (.if_icmp .eq 28, 3) := by decide +kernel
theorem dX11_way_66 : decode cX11_way 66 = .ok (.aload_n 0, 1) := by decide +kernel
theorem dX11_way_67 : decode cX11_way 67 = .ok (.iload_n 1, 1) := by decide +kernel
theorem dX11_way_68 : decode cX11_way 68 = .ok (.aload_n 0, 1) := by decide +kernel
theorem dX11_way_69 : decode cX11_way 69 = .ok (.getfield 39, 3) := by decide +kernel
theorem dX11_way_72 : decode cX11_way 72 = .ok (.iload 5, 2) := by decide +kernel
theorem dX11_way_74 : decode cX11_way 74 = .ok (.iaload, 1) := by decide +kernel
theorem dX11_way_75 : decode cX11_way 75 = .ok (.aload_n 0, 1) := by decide +kernel
theorem dX11_way_76 : decode cX11_way 76 = .ok (.getfield 39, 3) := by decide +kernel
theorem dX11_way_79 : decode cX11_way 79 = .ok (.iload_n 3, 1) := by decide +kernel
theorem dX11_way_80 : decode cX11_way 80 = .ok (.iaload, 1) := by decide +kernel
theorem dX11_way_81 : decode cX11_way 81 = .ok (.invokevirtual 163, 3) := by decide +kernel
theorem dX11_way_84 : decode cX11_way 84 = .ok (.ifCond .eq 7, 3) := by decide +kernel
theorem dX11_way_87 : decode cX11_way 87 = .ok (.iconst 1, 1) := by decide +kernel
theorem dX11_way_88 : decode cX11_way 88 = .ok (.goto 4, 3) := by decide +kernel
theorem dX11_way_91 : decode cX11_way 91 = .ok (.iconst 0, 1) := by decide +kernel
theorem dX11_way_92 : decode cX11_way 92 = .ok (.iadd, 1) := by decide +kernel
theorem dX11_way_93 : decode cX11_way 93 = .ok (.istore 4, 2) := by decide +kernel
theorem dX11_way_95 : decode cX11_way 95 = .ok (.iinc 5 1, 3) := by decide +kernel
theorem dX11_way_98 : decode cX11_way 98 = .ok (.goto (-64), 3) := by decide +kernel
theorem dX11_way_101 : decode cX11_way 101 = .ok (.aload_n 0, 1) := by decide +kernel
theorem dX11_way_102 : decode cX11_way 102 = .ok (.getfield 42, 3) := by decide +kernel
theorem dX11_way_105 : decode cX11_way 105 = .ok (.iload_n 3, 1) := by decide +kernel
theorem dX11_way_106 : decode cX11_way 106 = .ok (.iaload, 1) := by decide +kernel
theorem dX11_way_107 : decode cX11_way 107 = .ok (.iload_n 1, 1) := by decide +kernel
theorem dX11_way_108 : decode cX11_way 108 = .ok (.if_icmp .ne 16, 3) := by decide +kernel
theorem dX11_way_111 : decode cX11_way 111 = .ok (.iload 4, 2) := by decide +kernel
theorem dX11_way_113 : decode cX11_way 113 = .ok (.iload_n 2, 1) := by decide +kernel
theorem dX11_way_114 : decode cX11_way 114 = .ok (.if_icmp .ne 10, 3) := by decide +kernel
theorem dX11_way_117 : decode cX11_way 117 = .ok (.aload_n 0, 1) := by decide +kernel
theorem dX11_way_118 : decode cX11_way 118 = .ok (.getfield 39, 3) := by decide +kernel
theorem dX11_way_121 : decode cX11_way 121 = .ok (.iload_n 3, 1) := by decide +kernel
theorem dX11_way_122 : decode cX11_way 122 = .ok (.iaload, 1) := by decide +kernel
theorem dX11_way_123 : decode cX11_way 123 = .ok (.ireturn, 1) := by decide +kernel
theorem dX11_way_124 : decode cX11_way 124 = .ok (.iinc 3 1, 3) := by decide +kernel
theorem dX11_way_127 : decode cX11_way 127 = .ok (.goto (-107), 3) := by decide +kernel
theorem dX11_way_130 : decode cX11_way 130 = .ok (.bipush (-4), 2) := by decide +kernel
theorem dX11_way_132 : decode cX11_way 132 = .ok (.ireturn, 1) := by decide +kernel
theorem dX11_whyAt_0 : decode cX11_whyAt 0 = .ok (.iload_n 1, 1) := by decide +kernel
theorem dX11_whyAt_1 : decode cX11_whyAt 1 = .ok (.iload_n 2, 1) := by decide +kernel
theorem dX11_whyAt_2 : decode cX11_whyAt 2 = .ok (.invokestatic 135, 3) := by decide +kernel
theorem dX11_whyAt_5 : decode cX11_whyAt 5 = .ok (.istore_n 3, 1) := by decide +kernel
theorem dX11_whyAt_6 : decode cX11_whyAt 6 = .ok (.iload_n 1, 1) := by decide +kernel
theorem dX11_whyAt_7 : decode cX11_whyAt 7 = .ok (.iload_n 2, 1) := by decide +kernel
theorem dX11_whyAt_8 : decode cX11_whyAt 8 = .ok (.iconst 1, 1) := by decide +kernel
theorem dX11_whyAt_9 : decode cX11_whyAt 9 = .ok (.iadd, 1) := by decide +kernel
theorem dX11_whyAt_10 : decode cX11_whyAt 10 = .ok (.invokestatic 135, 3) := by decide +kernel
theorem dX11_whyAt_13 : decode cX11_whyAt 13 = .ok (.istore 4, 2) := by decide +kernel
theorem dX11_whyAt_15 : decode cX11_whyAt 15 = .ok (.iload_n 1, 1) := by decide +kernel
theorem dX11_whyAt_16 : decode cX11_whyAt 16 = .ok (.invokestatic 125, 3) := by decide +kernel
theorem dX11_whyAt_19 : decode cX11_whyAt 19 = .ok (.iload_n 2, 1) := by decide +kernel
theorem dX11_whyAt_20 : decode cX11_whyAt 20 = .ok (.isub, 1) := by decide +kernel
theorem dX11_whyAt_21 : decode cX11_whyAt 21 = .ok (.iconst 1, 1) := by decide +kernel
theorem dX11_whyAt_22 : decode cX11_whyAt 22 = .ok (.isub, 1) := by decide +kernel
theorem dX11_whyAt_23 : decode cX11_whyAt 23 = .ok (.istore 5, 2) := by decide +kernel
theorem dX11_whyAt_25 : decode cX11_whyAt 25 = .ok (.iload_n 1, 1) := by decide +kernel
theorem dX11_whyAt_26 : decode cX11_whyAt 26 = .ok (.iload 5, 2) := by decide +kernel
theorem dX11_whyAt_28 : decode cX11_whyAt 28 = .ok (.invokestatic 129, 3) := by decide +kernel
theorem dX11_whyAt_31 : decode cX11_whyAt 31 = .ok (.irem, 1) := by decide +kernel
theorem dX11_whyAt_32 : decode cX11_whyAt 32 = .ok (.istore 6, 2) := by decide +kernel
theorem dX11_whyAt_34 : decode cX11_whyAt 34 = .ok (.iconst 0, 1) := by decide +kernel
theorem dX11_whyAt_35 : decode cX11_whyAt 35 = .ok (.istore 7, 2) := by decide +kernel
theorem dX11_whyAt_37 : decode cX11_whyAt 37 = .ok (.iload_n 2, 1) := by decide +kernel
theorem dX11_whyAt_38 : decode cX11_whyAt 38 = .ok (.iconst 1, 1) := by decide +kernel
theorem dX11_whyAt_39 : decode cX11_whyAt 39 = .ok (.iadd, 1) := by decide +kernel
theorem dX11_whyAt_40 : decode cX11_whyAt 40 = .ok (.istore 8, 2) := by decide +kernel
theorem dX11_whyAt_42 : decode cX11_whyAt 42 = .ok (.iload 8, 2) := by decide +kernel
theorem dX11_whyAt_44 : decode cX11_whyAt 44 = .ok (.iload_n 1, 1) := by decide +kernel
theorem dX11_whyAt_45 : decode cX11_whyAt 45 = .ok (.invokestatic 125, 3) := by decide +kernel
theorem dX11_whyAt_48 : decode cX11_whyAt 48 = .ok (.if_icmp .ge 22, 3) := by decide +kernel
theorem dX11_whyAt_51 : decode cX11_whyAt 51 = .ok (.iload 7, 2) := by decide +kernel
theorem dX11_whyAt_53 : decode cX11_whyAt 53 = .ok (.iconst 1, 1) := by decide +kernel
theorem dX11_whyAt_54 : decode cX11_whyAt 54 = .ok (.iload_n 1, 1) := by decide +kernel
theorem dX11_whyAt_55 : decode cX11_whyAt 55 = .ok (.iload 8, 2) := by decide +kernel
theorem dX11_whyAt_57 : decode cX11_whyAt 57 = .ok (.invokestatic 135, 3) := by decide +kernel
theorem dX11_whyAt_60 : decode cX11_whyAt 60 = .ok (.ishl, 1) := by decide +kernel
theorem dX11_whyAt_61 : decode cX11_whyAt 61 = .ok (.ior, 1) := by decide +kernel
theorem dX11_whyAt_62 : decode cX11_whyAt 62 = .ok (.istore 7, 2) := by decide +kernel
theorem dX11_whyAt_64 : decode cX11_whyAt 64 = .ok (.iinc 8 1, 3) := by decide +kernel
theorem dX11_whyAt_67 : decode cX11_whyAt 67 = .ok (.goto (-25), 3) := by decide +kernel
theorem dX11_whyAt_70 : decode cX11_whyAt 70 = .ok (.iload_n 3, 1) := by decide +kernel
theorem dX11_whyAt_71 : decode cX11_whyAt 71 = .ok (.iload 4, 2) := by decide +kernel
theorem dX11_whyAt_73 : decode cX11_whyAt 73 = .ok (.if_icmp .eq 13, 3) := by decide +kernel
theorem dX11_whyAt_76 : decode cX11_whyAt 76 = .ok (.aload_n 0, 1) := by decide +kernel
theorem dX11_whyAt_77 : decode cX11_whyAt 77 = .ok (.iload_n 3, 1) := by decide +kernel
theorem dX11_whyAt_78 : decode cX11_whyAt 78 = .ok (.iload 4, 2) := by decide +kernel
theorem dX11_whyAt_80 : decode cX11_whyAt 80 = .ok (.invokevirtual 141, 3) := by decide +kernel
theorem dX11_whyAt_83 : decode cX11_whyAt 83 = .ok (.ifCond .ne 5, 3) := by decide +kernel
theorem dX11_whyAt_86 : decode cX11_whyAt 86 = .ok (.iconst 1, 1) := by decide +kernel
theorem dX11_whyAt_87 : decode cX11_whyAt 87 = .ok (.ireturn, 1) := by decide +kernel
theorem dX11_whyAt_88 : decode cX11_whyAt 88 = .ok (.iload 7, 2) := by decide +kernel
theorem dX11_whyAt_90 : decode cX11_whyAt 90 = .ok (.iload_n 3, 1) := by decide +kernel
theorem dX11_whyAt_91 : decode cX11_whyAt 91 = .ok (.invokestatic 118, 3) := by decide +kernel
theorem dX11_whyAt_94 : decode cX11_whyAt 94 = .ok (.ifCond .eq 5, 3) := by decide +kernel
theorem dX11_whyAt_97 : decode cX11_whyAt 97 = .ok (.iconst 2, 1) := by decide +kernel
theorem dX11_whyAt_98 : decode cX11_whyAt 98 = .ok (.ireturn, 1) := by decide +kernel
theorem dX11_whyAt_99 : decode cX11_whyAt 99 = .ok (.aload_n 0, 1) := by decide +kernel
theorem dX11_whyAt_100 : decode cX11_whyAt 100 = .ok (.getfield 7, 3) := by decide +kernel
theorem dX11_whyAt_103 : decode cX11_whyAt 103 = .ok (.bipush 115, 2) := by decide +kernel
theorem dX11_whyAt_105 : decode cX11_whyAt 105 = .ok (.iload_n 3, 1) := by decide +kernel
theorem dX11_whyAt_106 : decode cX11_whyAt 106 = .ok (.iadd, 1) := by decide +kernel
theorem dX11_whyAt_107 : decode cX11_whyAt 107 = .ok (.iaload, 1) := by decide +kernel
theorem dX11_whyAt_108 : decode cX11_whyAt 108 = .ok (.iload 7, 2) := by decide +kernel
theorem dX11_whyAt_110 : decode cX11_whyAt 110 = .ok (.iand, 1) := by decide +kernel
theorem dX11_whyAt_111 : decode cX11_whyAt 111 = .ok (.ifCond .eq 5, 3) := by decide +kernel
theorem dX11_whyAt_114 : decode cX11_whyAt 114 = .ok (.iconst 3, 1) := by decide +kernel
theorem dX11_whyAt_115 : decode cX11_whyAt 115 = .ok (.ireturn, 1) := by decide +kernel
theorem dX11_whyAt_116 : decode cX11_whyAt 116 = .ok (.aload_n 0, 1) := by decide +kernel
theorem dX11_whyAt_117 : decode cX11_whyAt 117 = .ok (.iload 4, 2) := by decide +kernel
theorem dX11_whyAt_119 : decode cX11_whyAt 119 = .ok (.iload_n 3, 1) := by decide +kernel
theorem dX11_whyAt_120 : decode cX11_whyAt 120 = .ok (.iload 5, 2) := by decide +kernel
theorem dX11_whyAt_122 : decode cX11_whyAt 122 = .ok (.iconst 1, 1) := by decide +kernel
theorem dX11_whyAt_123 : decode cX11_whyAt 123 = .ok (.if_icmp .ne 7, 3) := by decide +kernel
theorem dX11_whyAt_126 : decode cX11_whyAt 126 = .ok (.iconst (-1), 1) := by decide +kernel
theorem dX11_whyAt_127 : decode cX11_whyAt 127 = .ok (.goto 16, 3) := by decide +kernel
theorem dX11_whyAt_130 : decode cX11_whyAt 130 = .ok (.iload 6, 2) := by decide +kernel
theorem dX11_whyAt_132 : decode cX11_whyAt 132 = .ok (.iload 5, 2) := by decide +kernel
theorem dX11_whyAt_134 : decode cX11_whyAt 134 = .ok (.iconst 2, 1) := by decide +kernel
theorem dX11_whyAt_135 : decode cX11_whyAt 135 = .ok (.isub, 1) := by decide +kernel
theorem dX11_whyAt_136 : decode cX11_whyAt 136 = .ok (.invokestatic 129, 3) := by decide +kernel
theorem dX11_whyAt_139 : decode cX11_whyAt 139 = .ok (.idiv, 1) := by decide +kernel
theorem dX11_whyAt_140 : decode cX11_whyAt 140 = .ok (.bipush 10, 2) := by decide +kernel
theorem dX11_whyAt_142 : decode cX11_whyAt 142 = .ok (.irem, 1) := by decide +kernel
theorem dX11_whyAt_143 : decode cX11_whyAt 143 = .ok (.invokevirtual 147, 3) := by decide +kernel
theorem dX11_whyAt_146 : decode cX11_whyAt 146 = .ok (.ifCond .eq 7, 3) := by decide +kernel
theorem dX11_whyAt_149 : decode cX11_whyAt 149 = .ok (.iconst 0, 1) := by decide +kernel
theorem dX11_whyAt_150 : decode cX11_whyAt 150 = .ok (.goto 4, 3) := by decide +kernel
theorem dX11_whyAt_153 : decode cX11_whyAt 153 = .ok (.iconst 4, 1) := by decide +kernel
theorem dX11_whyAt_154 : decode cX11_whyAt 154 = .ok (.ireturn, 1) := by decide +kernel
theorem dX11_isRow_0 : decode cX11_isRow 0 = .ok (.iload_n 1, 1) := by decide +kernel
theorem dX11_isRow_1 : decode cX11_isRow 1 = .ok (.i2l, 1) := by decide +kernel
theorem dX11_isRow_2 : decode cX11_isRow 2 = .ok (.lconst 0, 1) := by decide +kernel
theorem dX11_isRow_3 : decode cX11_isRow 3 = .ok (.ldc2_w 166, 3) := by decide +kernel
theorem dX11_isRow_6 : decode cX11_isRow 6 = .ok (.invokestatic 88, 3) := by decide +kernel
theorem dX11_isRow_9 : decode cX11_isRow 9 = .ok (.ifCond .eq 14, 3) := by decide +kernel
theorem dX11_isRow_12 : decode cX11_isRow 12 = .ok (.iload_n 1, 1) := by decide +kernel
theorem dX11_isRow_13 : decode cX11_isRow 13 = .ok (.bipush 10, 2) := by decide +kernel
theorem dX11_isRow_15 : decode cX11_isRow 15 = .ok (.irem, 1) := by decide +kernel
theorem dX11_isRow_16 : decode cX11_isRow 16 = .ok (.ifCond .ne 7, 3) := by decide +kernel
theorem dX11_isRow_19 : decode cX11_isRow 19 = .ok (.iconst 1, 1) := by decide +kernel
theorem dX11_isRow_20 : decode cX11_isRow 20 = .ok (.goto 4, 3) := by decide +kernel
theorem dX11_isRow_23 : decode cX11_isRow 23 = .ok (.iconst 0, 1) := by decide +kernel
theorem dX11_isRow_24 : decode cX11_isRow 24 = .ok (.istore_n 2, 1) := by decide +kernel
theorem dX11_isRow_25 : decode cX11_isRow 25 = .ok (.iload_n 2, 1) := by decide +kernel
theorem dX11_isRow_26 : decode cX11_isRow 26 = .ok (.ifCond .eq 7, 3) := by decide +kernel
theorem dX11_isRow_29 : decode cX11_isRow 29 = .ok (.iload_n 1, 1) := by decide +kernel
theorem dX11_isRow_30 : decode cX11_isRow 30 = .ok (.goto 4, 3) := by decide +kernel
theorem dX11_isRow_33 : decode cX11_isRow 33 = .ok (.iconst 0, 1) := by decide +kernel
theorem dX11_isRow_34 : decode cX11_isRow 34 = .ok (.istore_n 3, 1) := by decide +kernel
theorem dX11_isRow_35 : decode cX11_isRow 35 = .ok (.iload_n 3, 1) := by decide +kernel
theorem dX11_isRow_36 : decode cX11_isRow 36 = .ok (.ifCond .le 34, 3) := by decide +kernel
theorem dX11_isRow_39 : decode cX11_isRow 39 = .ok (.iload_n 2, 1) := by decide +kernel
theorem dX11_isRow_40 : decode cX11_isRow 40 = .ok (.ifCond .eq 20, 3) := by decide +kernel
theorem dX11_isRow_43 : decode cX11_isRow 43 = .ok (.iload_n 3, 1) := by decide +kernel
theorem dX11_isRow_44 : decode cX11_isRow 44 = .ok (.bipush 10, 2) := by decide +kernel
theorem dX11_isRow_46 : decode cX11_isRow 46 = .ok (.irem, 1) := by decide +kernel
theorem dX11_isRow_47 : decode cX11_isRow 47 = .ok (.aload_n 0, 1) := by decide +kernel
theorem dX11_isRow_48 : decode cX11_isRow 48 = .ok (.getfield 7, 3) := by decide +kernel
theorem dX11_isRow_51 : decode cX11_isRow 51 = .ok (.iconst 0, 1) := by decide +kernel
theorem dX11_isRow_52 : decode cX11_isRow 52 = .ok (.iaload, 1) := by decide +kernel
theorem dX11_isRow_53 : decode cX11_isRow 53 = .ok (.if_icmp .ge 7, 3) := by decide +kernel
theorem dX11_isRow_56 : decode cX11_isRow 56 = .ok (.iconst 1, 1) := by decide +kernel
theorem dX11_isRow_57 : decode cX11_isRow 57 = .ok (.goto 4, 3) := by decide +kernel
theorem dX11_isRow_60 : decode cX11_isRow 60 = .ok (.iconst 0, 1) := by decide +kernel
theorem dX11_isRow_61 : decode cX11_isRow 61 = .ok (.istore_n 2, 1) := by decide +kernel
theorem dX11_isRow_62 : decode cX11_isRow 62 = .ok (.iload_n 3, 1) := by decide +kernel
theorem dX11_isRow_63 : decode cX11_isRow 63 = .ok (.bipush 10, 2) := by decide +kernel
theorem dX11_isRow_65 : decode cX11_isRow 65 = .ok (.idiv, 1) := by decide +kernel
theorem dX11_isRow_66 : decode cX11_isRow 66 = .ok (.istore_n 3, 1) := by decide +kernel
theorem dX11_isRow_67 : decode cX11_isRow 67 = .ok (.goto (-32), 3) := by decide +kernel
theorem dX11_isRow_70 : decode cX11_isRow 70 = .ok (.iload_n 2, 1) := by decide +kernel
theorem dX11_isRow_71 : decode cX11_isRow 71 = .ok (.ireturn, 1) := by decide +kernel
theorem dX11_why_0 : decode cX11_why 0 = .ok (.aload_n 0, 1) := by decide +kernel
theorem dX11_why_1 : decode cX11_why 1 = .ok (.iload_n 1, 1) := by decide +kernel
theorem dX11_why_2 : decode cX11_why 2 = .ok (.invokevirtual 168, 3) := by decide +kernel
theorem dX11_why_5 : decode cX11_why 5 = .ok (.ifCond .ne 5, 3) := by decide +kernel
theorem dX11_why_8 : decode cX11_why 8 = .ok (.iconst (-1), 1) := by decide +kernel
theorem dX11_why_9 : decode cX11_why 9 = .ok (.ireturn, 1) := by decide +kernel
theorem dX11_why_10 : decode cX11_why 10 = .ok (.iload_n 1, 1) := by decide +kernel
theorem dX11_why_11 : decode cX11_why 11 = .ok (.invokestatic 125, 3) := by decide +kernel
theorem dX11_why_14 : decode cX11_why 14 = .ok (.iconst 2, 1) := by decide +kernel
theorem dX11_why_15 : decode cX11_why 15 = .ok (.isub, 1) := by decide +kernel
theorem dX11_why_16 : decode cX11_why 16 = .ok (.istore_n 2, 1) := by decide +kernel
theorem dX11_why_17 : decode cX11_why 17 = .ok (.iload_n 2, 1) := by decide +kernel
theorem dX11_why_18 : decode cX11_why 18 = .ok (.ifCond .lt 36, 3) := by decide +kernel
theorem dX11_why_21 : decode cX11_why 21 = .ok (.aload_n 0, 1) := by decide +kernel
theorem dX11_why_22 : decode cX11_why 22 = .ok (.iload_n 1, 1) := by decide +kernel
theorem dX11_why_23 : decode cX11_why 23 = .ok (.iload_n 2, 1) := by decide +kernel
theorem dX11_why_24 : decode cX11_why 24 = .ok (.invokevirtual 171, 3) := by decide +kernel
theorem dX11_why_27 : decode cX11_why 27 = .ok (.istore_n 3, 1) := by decide +kernel
theorem dX11_why_28 : decode cX11_why 28 = .ok (.iload_n 3, 1) := by decide +kernel
theorem dX11_why_29 : decode cX11_why 29 = .ok (.ifCond .le 19, 3) := by decide +kernel
theorem dX11_why_32 : decode cX11_why 32 = .ok (.bipush 100, 2) := by decide +kernel
theorem dX11_why_34 : decode cX11_why 34 = .ok (.iload_n 3, 1) := by decide +kernel
theorem dX11_why_35 : decode cX11_why 35 = .ok (.imul, 1) := by decide +kernel
theorem dX11_why_36 : decode cX11_why 36 = .ok (.bipush 10, 2) := by decide +kernel
theorem dX11_why_38 : decode cX11_why 38 = .ok (.iload_n 1, 1) := by decide +kernel
theorem dX11_why_39 : decode cX11_why 39 = .ok (.iload_n 2, 1) := by decide +kernel
