theorem dX5_lengthThrough_0 : decode cX5_lengthThrough 0 = .ok (.aload_n 0, 1) := by decide +kernel
theorem dX5_lengthThrough_1 : decode cX5_lengthThrough 1 = .ok (.getfield 33, 3) := by decide +kernel
theorem dX5_lengthThrough_4 : decode cX5_lengthThrough 4 = .ok (.lconst 0, 1) := by decide +kernel
theorem dX5_lengthThrough_5 : decode cX5_lengthThrough 5 = .ok (.invokestatic 45, 3) := by decide +kernel
theorem dX5_lengthThrough_8 : decode cX5_lengthThrough 8 = .ok (.aload_n 0, 1) := by decide +kernel
theorem dX5_lengthThrough_9 : decode cX5_lengthThrough 9 = .ok (.getfield 36, 3) := by decide +kernel
theorem dX5_lengthThrough_12 : decode cX5_lengthThrough 12 = .ok (.lconst 0, 1) := by decide +kernel
theorem dX5_lengthThrough_13 : decode cX5_lengthThrough 13 = .ok (.invokestatic 45, 3) := by decide +kernel
theorem dX5_lengthThrough_16 : decode cX5_lengthThrough 16 = .ok (.aload_n 0, 1) := by decide +kernel
theorem dX5_lengthThrough_17 : decode cX5_lengthThrough 17 = .ok (.getfield 36, 3) := by decide +kernel
theorem dX5_lengthThrough_20 : decode cX5_lengthThrough 20 = .ok (.iload_n 1, 1) := by decide +kernel
theorem dX5_lengthThrough_21 : decode cX5_lengthThrough 21 = .ok (.bipush 64, 2) := by decide +kernel
theorem dX5_lengthThrough_23 : decode cX5_lengthThrough 23 = .ok (.idiv, 1) := by decide +kernel
theorem dX5_lengthThrough_24 : decode cX5_lengthThrough 24 = .ok (.dup2, 1) := by decide +kernel
theorem dX5_lengthThrough_25 : decode cX5_lengthThrough 25 = .ok (.laload, 1) := by decide +kernel
theorem dX5_lengthThrough_26 : decode cX5_lengthThrough 26 = .ok (.lconst 1, 1) := by decide +kernel
theorem dX5_lengthThrough_27 : decode cX5_lengthThrough 27 = .ok (.iload_n 1, 1) := by decide +kernel
theorem dX5_lengthThrough_28 : decode cX5_lengthThrough 28 = .ok (.bipush 64, 2) := by decide +kernel
theorem dX5_lengthThrough_30 : decode cX5_lengthThrough 30 = .ok (.irem, 1) := by decide +kernel
theorem dX5_lengthThrough_31 : decode cX5_lengthThrough 31 = .ok (.lshl, 1) := by decide +kernel
theorem dX5_lengthThrough_32 : decode cX5_lengthThrough 32 = .ok (.lor, 1) := by decide +kernel
theorem dX5_lengthThrough_33 : decode cX5_lengthThrough 33 = .ok (.lastore, 1) := by decide +kernel
theorem dX5_lengthThrough_34 : decode cX5_lengthThrough 34 = .ok (.iconst 1, 1) := by decide +kernel
theorem dX5_lengthThrough_35 : decode cX5_lengthThrough 35 = .ok (.istore_n 2, 1) := by decide +kernel
theorem dX5_lengthThrough_36 : decode cX5_lengthThrough 36 = .ok (.iload_n 2, 1) := by decide +kernel
theorem dX5_lengthThrough_37 : decode cX5_lengthThrough 37 = .ok (.sipush 326, 3) := by decide +kernel
theorem dX5_lengthThrough_40 : decode cX5_lengthThrough 40 = .ok (.if_icmp .gt 31, 3) := by decide +kernel
theorem dX5_lengthThrough_43 : decode cX5_lengthThrough 43 = .ok (.aload_n 0, 1) := by decide +kernel
theorem dX5_lengthThrough_44 : decode cX5_lengthThrough 44 = .ok (.invokevirtual 121, 3) := by decide +kernel
theorem dX5_lengthThrough_47 : decode cX5_lengthThrough 47 = .ok (.ifCond .ne 5, 3) := by decide +kernel
theorem dX5_lengthThrough_50 : decode cX5_lengthThrough 50 = .ok (.iconst 0, 1) := by decide +kernel
theorem dX5_lengthThrough_51 : decode cX5_lengthThrough 51 = .ok (.ireturn, 1) := by decide +kernel
theorem dX5_lengthThrough_52 : decode cX5_lengthThrough 52 = .ok (.aload_n 0, 1) := by decide +kernel
theorem dX5_lengthThrough_53 : decode cX5_lengthThrough 53 = .ok (.getfield 36, 3) := by decide +kernel
theorem dX5_lengthThrough_56 : decode cX5_lengthThrough 56 = .ok (.iload_n 1, 1) := by decide +kernel
theorem dX5_lengthThrough_57 : decode cX5_lengthThrough 57 = .ok (.invokestatic 100, 3) := by decide +kernel
theorem dX5_lengthThrough_60 : decode cX5_lengthThrough 60 = .ok (.ifCond .eq 5, 3) := by decide +kernel
theorem dX5_lengthThrough_63 : decode cX5_lengthThrough 63 = .ok (.iload_n 2, 1) := by decide +kernel
theorem dX5_lengthThrough_64 : decode cX5_lengthThrough 64 = .ok (.ireturn, 1) := by decide +kernel
theorem dX5_lengthThrough_65 : decode cX5_lengthThrough 65 = .ok (.iinc 2 1, 3) := by decide +kernel
theorem dX5_lengthThrough_68 : decode cX5_lengthThrough 68 = .ok (.goto (-32), 3) := by decide +kernel
theorem dX5_lengthThrough_71 : decode cX5_lengthThrough 71 = .ok (.iconst 0, 1) := by decide +kernel
theorem dX5_lengthThrough_72 : decode cX5_lengthThrough 72 = .ok (.ireturn, 1) := by decide +kernel
theorem dX5_spread_0 : decode cX5_spread 0 = .ok (.aload_n 0, 1) := by decide +kernel
theorem dX5_spread_1 : decode cX5_spread 1 = .ok (.getfield 39, 3) := by decide +kernel
theorem dX5_spread_4 : decode cX5_spread 4 = .ok (.lconst 0, 1) := by decide +kernel
theorem dX5_spread_5 : decode cX5_spread 5 = .ok (.invokestatic 45, 3) := by decide +kernel
theorem dX5_spread_8 : decode cX5_spread 8 = .ok (.iconst 0, 1) := by decide +kernel
theorem dX5_spread_9 : decode cX5_spread 9 = .ok (.istore_n 1, 1) := by decide +kernel
theorem dX5_spread_10 : decode cX5_spread 10 = .ok (.iload_n 1, 1) := by decide +kernel
theorem dX5_spread_11 : decode cX5_spread 11 = .ok (.bipush 6, 2) := by decide +kernel
theorem dX5_spread_13 : decode cX5_spread 13 = .ok (.if_icmp .ge 66, 3) := by decide +kernel
theorem dX5_spread_16 : decode cX5_spread 16 = .ok (.aload_n 0, 1) := by decide +kernel
theorem dX5_spread_17 : decode cX5_spread 17 = .ok (.getfield 36, 3) := by decide +kernel
theorem dX5_spread_20 : decode cX5_spread 20 = .ok (.iload_n 1, 1) := by decide +kernel
theorem dX5_spread_21 : decode cX5_spread 21 = .ok (.laload, 1) := by decide +kernel
theorem dX5_spread_22 : decode cX5_spread 22 = .ok (.lstore_n 2, 1) := by decide +kernel
theorem dX5_spread_23 : decode cX5_spread 23 = .ok (.iconst 0, 1) := by decide +kernel
theorem dX5_spread_24 : decode cX5_spread 24 = .ok (.istore 4, 2) := by decide +kernel
theorem dX5_spread_26 : decode cX5_spread 26 = .ok (.iload 4, 2) := by decide +kernel
theorem dX5_spread_28 : decode cX5_spread 28 = .ok (.bipush 64, 2) := by decide +kernel
theorem dX5_spread_30 : decode cX5_spread 30 = .ok (.if_icmp .ge 43, 3) := by decide +kernel
theorem dX5_spread_33 : decode cX5_spread 33 = .ok (.lload_n 2, 1) := by decide +kernel
theorem dX5_spread_34 : decode cX5_spread 34 = .ok (.lconst 0, 1) := by decide +kernel
theorem dX5_spread_35 : decode cX5_spread 35 = .ok (.lcmp, 1) := by decide +kernel
theorem dX5_spread_36 : decode cX5_spread 36 = .ok (.ifCond .eq 37, 3) := by decide +kernel
theorem dX5_spread_39 : decode cX5_spread 39 = .ok (.lload_n 2, 1) := by decide +kernel
theorem dX5_spread_40 : decode cX5_spread 40 = .ok (.lload_n 2, 1) := by decide +kernel
theorem dX5_spread_41 : decode cX5_spread 41 = .ok (.lneg, 1) := by decide +kernel
theorem dX5_spread_42 : decode cX5_spread 42 = .ok (.land, 1) := by decide +kernel
theorem dX5_spread_43 : decode cX5_spread 43 = .ok (.lstore 5, 2) := by decide +kernel
theorem dX5_spread_45 : decode cX5_spread 45 = .ok (.aload_n 0, 1) := by decide +kernel
theorem dX5_spread_46 : decode cX5_spread 46 = .ok (.iload_n 1, 1) := by decide +kernel
theorem dX5_spread_47 : decode cX5_spread 47 = .ok (.bipush 64, 2) := by decide +kernel
theorem dX5_spread_49 : decode cX5_spread 49 = .ok (.imul, 1) := by decide +kernel
theorem dX5_spread_50 : decode cX5_spread 50 = .ok (.lload 5, 2) := by decide +kernel
theorem dX5_spread_52 : decode cX5_spread 52 = .ok (.lconst 1, 1) := by decide +kernel
theorem dX5_spread_53 : decode cX5_spread 53 = .ok (.lsub, 1) := by decide +kernel
theorem dX5_spread_54 : decode cX5_spread 54 = .ok (.invokestatic 124, 3) := by decide +kernel
theorem dX5_spread_57 : decode cX5_spread 57 = .ok (.iadd, 1) := by decide +kernel
theorem dX5_spread_58 : decode cX5_spread 58 = .ok (.invokevirtual 104, 3) := by decide +kernel
theorem dX5_spread_61 : decode cX5_spread 61 = .ok (.pop, 1) := by decide +kernel
theorem dX5_spread_62 : decode cX5_spread 62 = .ok (.lload_n 2, 1) := by decide +kernel
theorem dX5_spread_63 : decode cX5_spread 63 = .ok (.lload 5, 2) := by decide +kernel
theorem dX5_spread_65 : decode cX5_spread 65 = .ok (.lxor, 1) := by decide +kernel
theorem dX5_spread_66 : decode cX5_spread 66 = .ok (.lstore_n 2, 1) := by decide +kernel
theorem dX5_spread_67 : decode cX5_spread 67 = .ok (.iinc 4 1, 3) := by decide +kernel
theorem dX5_spread_70 : decode cX5_spread 70 = .ok (.goto (-44), 3) := by decide +kernel
theorem dX5_spread_73 : decode cX5_spread 73 = .ok (.iinc 1 1, 3) := by decide +kernel
theorem dX5_spread_76 : decode cX5_spread 76 = .ok (.goto (-66), 3) := by decide +kernel
theorem dX5_spread_79 : decode cX5_spread 79 = .ok (.lconst 0, 1) := by decide +kernel
theorem dX5_spread_80 : decode cX5_spread 80 = .ok (.lstore_n 1, 1) := by decide +kernel
theorem dX5_spread_81 : decode cX5_spread 81 = .ok (.iconst 0, 1) := by decide +kernel
theorem dX5_spread_82 : decode cX5_spread 82 = .ok (.istore_n 3, 1) := by decide +kernel
theorem dX5_spread_83 : decode cX5_spread 83 = .ok (.iload_n 3, 1) := by decide +kernel
theorem dX5_spread_84 : decode cX5_spread 84 = .ok (.bipush 6, 2) := by decide +kernel
theorem dX5_spread_86 : decode cX5_spread 86 = .ok (.if_icmp .ge 56, 3) := by decide +kernel
theorem dX5_spread_89 : decode cX5_spread 89 = .ok (.aload_n 0, 1) := by decide +kernel
theorem dX5_spread_90 : decode cX5_spread 90 = .ok (.getfield 36, 3) := by decide +kernel
theorem dX5_spread_93 : decode cX5_spread 93 = .ok (.iload_n 3, 1) := by decide +kernel
theorem dX5_spread_94 : decode cX5_spread 94 = .ok (.aload_n 0, 1) := by decide +kernel
theorem dX5_spread_95 : decode cX5_spread 95 = .ok (.getfield 39, 3) := by decide +kernel
theorem dX5_spread_98 : decode cX5_spread 98 = .ok (.iload_n 3, 1) := by decide +kernel
theorem dX5_spread_99 : decode cX5_spread 99 = .ok (.laload, 1) := by decide +kernel
theorem dX5_spread_100 : decode cX5_spread 100 = .ok (.aload_n 0, 1) := by decide +kernel
theorem dX5_spread_101 : decode cX5_spread 101 = .ok (.getfield 33, 3) := by decide +kernel
theorem dX5_spread_104 : decode cX5_spread 104 = .ok (.iload_n 3, 1) := by decide +kernel
theorem dX5_spread_105 : decode cX5_spread 105 = .ok (.laload, 1) := by decide +kernel
theorem dX5_spread_106 : decode cX5_spread 106 = .ok (.ldc2_w 108, 3) := by decide +kernel
theorem dX5_spread_109 : decode cX5_spread 109 = .ok (.lxor, 1) := by decide +kernel
theorem dX5_spread_110 : decode cX5_spread 110 = .ok (.land, 1) := by decide +kernel
theorem dX5_spread_111 : decode cX5_spread 111 = .ok (.lastore, 1) := by decide +kernel
theorem dX5_spread_112 : decode cX5_spread 112 = .ok (.aload_n 0, 1) := by decide +kernel
theorem dX5_spread_113 : decode cX5_spread 113 = .ok (.getfield 33, 3) := by decide +kernel
theorem dX5_spread_116 : decode cX5_spread 116 = .ok (.iload_n 3, 1) := by decide +kernel
theorem dX5_spread_117 : decode cX5_spread 117 = .ok (.dup2, 1) := by decide +kernel
theorem dX5_spread_118 : decode cX5_spread 118 = .ok (.laload, 1) := by decide +kernel
theorem dX5_spread_119 : decode cX5_spread 119 = .ok (.aload_n 0, 1) := by decide +kernel
theorem dX5_spread_120 : decode cX5_spread 120 = .ok (.getfield 36, 3) := by decide +kernel
theorem dX5_spread_123 : decode cX5_spread 123 = .ok (.iload_n 3, 1) := by decide +kernel
theorem dX5_spread_124 : decode cX5_spread 124 = .ok (.laload, 1) := by decide +kernel
theorem dX5_spread_125 : decode cX5_spread 125 = .ok (.lor, 1) := by decide +kernel
theorem dX5_spread_126 : decode cX5_spread 126 = .ok (.lastore, 1) := by decide +kernel
theorem dX5_spread_127 : decode cX5_spread 127 = .ok (.lload_n 1, 1) := by decide +kernel
theorem dX5_spread_128 : decode cX5_spread 128 = .ok (.aload_n 0, 1) := by decide +kernel
theorem dX5_spread_129 : decode cX5_spread 129 = .ok (.getfield 36, 3) := by decide +kernel
theorem dX5_spread_132 : decode cX5_spread 132 = .ok (.iload_n 3, 1) := by decide +kernel
theorem dX5_spread_133 : decode cX5_spread 133 = .ok (.laload, 1) := by decide +kernel
theorem dX5_spread_134 : decode cX5_spread 134 = .ok (.lor, 1) := by decide +kernel
theorem dX5_spread_135 : decode cX5_spread 135 = .ok (.lstore_n 1, 1) := by decide +kernel
theorem dX5_spread_136 : decode cX5_spread 136 = .ok (.iinc 3 1, 3) := by decide +kernel
theorem dX5_spread_139 : decode cX5_spread 139 = .ok (.goto (-56), 3) := by decide +kernel
theorem dX5_spread_142 : decode cX5_spread 142 = .ok (.lload_n 1, 1) := by decide +kernel
theorem dX5_spread_143 : decode cX5_spread 143 = .ok (.lconst 0, 1) := by decide +kernel
theorem dX5_spread_144 : decode cX5_spread 144 = .ok (.lcmp, 1) := by decide +kernel
theorem dX5_spread_145 : decode cX5_spread 145 = .ok (.ifCond .eq 7, 3) := by decide +kernel
theorem dX5_spread_148 : decode cX5_spread 148 = .ok (.iconst 1, 1) := by decide +kernel
theorem dX5_spread_149 : decode cX5_spread 149 = .ok (.goto 4, 3) := by decide +kernel
theorem dX5_spread_152 : decode cX5_spread 152 = .ok (.iconst 0, 1) := by decide +kernel
theorem dX5_spread_153 : decode cX5_spread 153 = .ok (.ireturn, 1) := by decide +kernel
theorem dX6_init_0 : decode cX6_init 0 = .ok (.aload_n 0, 1) := by decide +kernel
theorem dX6_init_1 : decode cX6_init 1 = .ok (.invokespecial 3, 3) := by decide +kernel
theorem dX6_init_4 : decode cX6_init 4 = .ok (.aload_n 0, 1) := by decide +kernel
theorem dX6_init_5 : decode cX6_init 5 = .ok (.iconst 4, 1) := by decide +kernel
theorem dX6_init_6 : decode cX6_init 6 = .ok (.newarray .int, 2) := by decide +kernel
theorem dX6_init_8 : decode cX6_init 8 = .ok (.dup, 1) := by decide +kernel
theorem dX6_init_9 : decode cX6_init 9 = .ok (.iconst 0, 1) := by decide +kernel
theorem dX6_init_10 : decode cX6_init 10 = .ok (.iconst (-1), 1) := by decide +kernel
theorem dX6_init_11 : decode cX6_init 11 = .ok (.iastore, 1) := by decide +kernel
theorem dX6_init_12 : decode cX6_init 12 = .ok (.dup, 1) := by decide +kernel
theorem dX6_init_13 : decode cX6_init 13 = .ok (.iconst 1, 1) := by decide +kernel
theorem dX6_init_14 : decode cX6_init 14 = .ok (.iconst (-1), 1) := by decide +kernel
theorem dX6_init_15 : decode cX6_init 15 = .ok (.iastore, 1) := by decide +kernel
theorem dX6_init_16 : decode cX6_init 16 = .ok (.dup, 1) := by decide +kernel
theorem dX6_init_17 : decode cX6_init 17 = .ok (.iconst 2, 1) := by decide +kernel
theorem dX6_init_18 : decode cX6_init 18 = .ok (.iconst (-1), 1) := by decide +kernel
theorem dX6_init_19 : decode cX6_init 19 = .ok (.iastore, 1) := by decide +kernel
theorem dX6_init_20 : decode cX6_init 20 = .ok (.dup, 1) := by decide +kernel
theorem dX6_init_21 : decode cX6_init 21 = .ok (.iconst 3, 1) := by decide +kernel
theorem dX6_init_22 : decode cX6_init 22 = .ok (.iconst (-1), 1) := by decide +kernel
theorem dX6_init_23 : decode cX6_init 23 = .ok (.iastore, 1) := by decide +kernel
theorem dX6_init_24 : decode cX6_init 24 = .ok (.putfield 11, 3) := by decide +kernel
theorem dX6_init_27 : decode cX6_init 27 = .ok (.aload_n 0, 1) := by decide +kernel
theorem dX6_init_28 : decode cX6_init 28 = .ok (.iconst 4, 1) := by decide +kernel
theorem dX6_init_29 : decode cX6_init 29 = .ok (.newarray .int, 2) := by decide +kernel
theorem dX6_init_31 : decode cX6_init 31 = .ok (.putfield 15, 3) := by decide +kernel
theorem dX6_init_34 : decode cX6_init 34 = .ok (.aload_n 0, 1) := by decide +kernel
theorem dX6_init_35 : decode cX6_init 35 = .ok (.bipush 96, 2) := by decide +kernel
theorem dX6_init_37 : decode cX6_init 37 = .ok (.newarray .long, 2) := by decide +kernel
theorem dX6_init_39 : decode cX6_init 39 = .ok (.putfield 18, 3) := by decide +kernel
theorem dX6_init_42 : decode cX6_init 42 = .ok (.return_, 1) := by decide +kernel
theorem dX6_isSheet_0 : decode cX6_isSheet 0 = .ok (.iload_n 0, 1) := by decide +kernel
theorem dX6_isSheet_1 : decode cX6_isSheet 1 = .ok (.ifCond .lt 12, 3) := by decide +kernel
theorem dX6_isSheet_4 : decode cX6_isSheet 4 = .ok (.iload_n 0, 1) := by decide +kernel
theorem dX6_isSheet_5 : decode cX6_isSheet 5 = .ok (.iconst 4, 1) := by decide +kernel
theorem dX6_isSheet_6 : decode cX6_isSheet 6 = .ok (.if_icmp .ge 7, 3) := by decide +kernel
theorem dX6_isSheet_9 : decode cX6_isSheet 9 = .ok (.iconst 1, 1) := by decide +kernel
theorem dX6_isSheet_10 : decode cX6_isSheet 10 = .ok (.goto 4, 3) := by decide +kernel
theorem dX6_isSheet_13 : decode cX6_isSheet 13 = .ok (.iconst 0, 1) := by decide +kernel
theorem dX6_isSheet_14 : decode cX6_isSheet 14 = .ok (.ireturn, 1) := by decide +kernel
theorem dX6_isLane_0 : decode cX6_isLane 0 = .ok (.iload_n 0, 1) := by decide +kernel
theorem dX6_isLane_1 : decode cX6_isLane 1 = .ok (.ifCond .lt 12, 3) := by decide +kernel
theorem dX6_isLane_4 : decode cX6_isLane 4 = .ok (.iload_n 0, 1) := by decide +kernel
theorem dX6_isLane_5 : decode cX6_isLane 5 = .ok (.iconst 3, 1) := by decide +kernel
theorem dX6_isLane_6 : decode cX6_isLane 6 = .ok (.if_icmp .gt 7, 3) := by decide +kernel
theorem dX6_isLane_9 : decode cX6_isLane 9 = .ok (.iconst 1, 1) := by decide +kernel
theorem dX6_isLane_10 : decode cX6_isLane 10 = .ok (.goto 4, 3) := by decide +kernel
theorem dX6_isLane_13 : decode cX6_isLane 13 = .ok (.iconst 0, 1) := by decide +kernel
theorem dX6_isLane_14 : decode cX6_isLane 14 = .ok (.ireturn, 1) := by decide +kernel
theorem dX6_isMissing_0 : decode cX6_isMissing 0 = .ok (.aload_n 0, 1) := by decide +kernel
theorem dX6_isMissing_1 : decode cX6_isMissing 1 = .ok (.getfield 11, 3) := by decide +kernel
theorem dX6_isMissing_4 : decode cX6_isMissing 4 = .ok (.iload_n 1, 1) := by decide +kernel
theorem dX6_isMissing_5 : decode cX6_isMissing 5 = .ok (.iaload, 1) := by decide +kernel
theorem dX6_isMissing_6 : decode cX6_isMissing 6 = .ok (.iconst (-1), 1) := by decide +kernel
theorem dX6_isMissing_7 : decode cX6_isMissing 7 = .ok (.if_icmp .ne 7, 3) := by decide +kernel
theorem dX6_isMissing_10 : decode cX6_isMissing 10 = .ok (.iconst 1, 1) := by decide +kernel
theorem dX6_isMissing_11 : decode cX6_isMissing 11 = .ok (.goto 4, 3) := by decide +kernel
theorem dX6_isMissing_14 : decode cX6_isMissing 14 = .ok (.iconst 0, 1) := by decide +kernel
theorem dX6_isMissing_15 : decode cX6_isMissing 15 = .ok (.ireturn, 1) := by decide +kernel
theorem dX6_laneOf_0 : decode cX6_laneOf 0 = .ok (.aload_n 0, 1) := by decide +kernel
theorem dX6_laneOf_1 : decode cX6_laneOf 1 = .ok (.getfield 11, 3) := by decide +kernel
theorem dX6_laneOf_4 : decode cX6_laneOf 4 = .ok (.iload_n 1, 1) := by decide +kernel
theorem dX6_laneOf_5 : decode cX6_laneOf 5 = .ok (.iaload, 1) := by decide +kernel
theorem dX6_laneOf_6 : decode cX6_laneOf 6 = .ok (.ireturn, 1) := by decide +kernel
theorem dX6_lengthOf_0 : decode cX6_lengthOf 0 = .ok (.aload_n 0, 1) := by decide +kernel
theorem dX6_lengthOf_1 : decode cX6_lengthOf 1 = .ok (.getfield 15, 3) := by decide +kernel
theorem dX6_lengthOf_4 : decode cX6_lengthOf 4 = .ok (.iload_n 1, 1) := by decide +kernel
theorem dX6_lengthOf_5 : decode cX6_lengthOf 5 = .ok (.iaload, 1) := by decide +kernel
theorem dX6_lengthOf_6 : decode cX6_lengthOf 6 = .ok (.ireturn, 1) := by decide +kernel
theorem dX6_holds_0 : decode cX6_holds 0 = .ok (.iload_n 2, 1) := by decide +kernel
theorem dX6_holds_1 : decode cX6_holds 1 = .ok (.ifCond .lt 33, 3) := by decide +kernel
theorem dX6_holds_4 : decode cX6_holds 4 = .ok (.iload_n 3, 1) := by decide +kernel
theorem dX6_holds_5 : decode cX6_holds 5 = .ok (.ifCond .lt 29, 3) := by decide +kernel
theorem dX6_holds_8 : decode cX6_holds 8 = .ok (.iload_n 2, 1) := by decide +kernel
theorem dX6_holds_9 : decode cX6_holds 9 = .ok (.aload_n 0, 1) := by decide +kernel
theorem dX6_holds_10 : decode cX6_holds 10 = .ok (.getfield 15, 3) := by decide +kernel
theorem dX6_holds_13 : decode cX6_holds 13 = .ok (.iload_n 1, 1) := by decide +kernel
theorem dX6_holds_14 : decode cX6_holds 14 = .ok (.iaload, 1) := by decide +kernel
theorem dX6_holds_15 : decode cX6_holds 15 = .ok (.if_icmp .gt 19, 3) := by decide +kernel
theorem dX6_holds_18 : decode cX6_holds 18 = .ok (.iload_n 3, 1) := by decide +kernel
theorem dX6_holds_19 : decode cX6_holds 19 = .ok (.aload_n 0, 1) := by decide +kernel
theorem dX6_holds_20 : decode cX6_holds 20 = .ok (.getfield 15, 3) := by decide +kernel
theorem dX6_holds_23 : decode cX6_holds 23 = .ok (.iload_n 1, 1) := by decide +kernel
theorem dX6_holds_24 : decode cX6_holds 24 = .ok (.iaload, 1) := by decide +kernel
theorem dX6_holds_25 : decode cX6_holds 25 = .ok (.iload_n 2, 1) := by decide +kernel
theorem dX6_holds_26 : decode cX6_holds 26 = .ok (.isub, 1) := by decide +kernel
theorem dX6_holds_27 : decode cX6_holds 27 = .ok (.if_icmp .gt 7, 3) := by decide +kernel
theorem dX6_holds_30 : decode cX6_holds 30 = .ok (.iconst 1, 1) := by decide +kernel
theorem dX6_holds_31 : decode cX6_holds 31 = .ok (.goto 4, 3) := by decide +kernel
theorem dX6_holds_34 : decode cX6_holds 34 = .ok (.iconst 0, 1) := by decide +kernel
theorem dX6_holds_35 : decode cX6_holds 35 = .ok (.ireturn, 1) := by decide +kernel
theorem dX6_refusal_0 : decode cX6_refusal 0 = .ok (.iload_n 1, 1) := by decide +kernel
theorem dX6_refusal_1 : decode cX6_refusal 1 = .ok (.invokestatic 22, 3) := by decide +kernel
theorem dX6_refusal_4 : decode cX6_refusal 4 = .ok (.ifCond .eq 10, 3) := by decide +kernel
theorem dX6_refusal_7 : decode cX6_refusal 7 = .ok (.iload_n 2, 1) := by decide +kernel
theorem dX6_refusal_8 : decode cX6_refusal 8 = .ok (.invokestatic 26, 3) := by decide +kernel
theorem dX6_refusal_11 : decode cX6_refusal 11 = .ok (.ifCond .ne 5, 3) := by decide +kernel
theorem dX6_refusal_14 : decode cX6_refusal 14 = .ok (.iconst (-1), 1) := by decide +kernel
theorem dX6_refusal_15 : decode cX6_refusal 15 = .ok (.ireturn, 1) := by decide +kernel
theorem dX6_refusal_16 : decode cX6_refusal 16 = .ok (.aload_n 0, 1) := by decide +kernel
theorem dX6_refusal_17 : decode cX6_refusal 17 = .ok (.iload_n 1, 1) := by decide +kernel
theorem dX6_refusal_18 : decode cX6_refusal 18 = .ok (.invokevirtual 29, 3) := by decide +kernel
theorem dX6_refusal_21 : decode cX6_refusal 21 = .ok (.ifCond .eq 6, 3) := by decide +kernel
theorem dX6_refusal_24 : decode cX6_refusal 24 = .ok (.bipush (-11), 2) := by decide +kernel
theorem dX6_refusal_26 : decode cX6_refusal 26 = .ok (.ireturn, 1) := by decide +kernel
theorem dX6_refusal_27 : decode cX6_refusal 27 = .ok (.aload_n 0, 1) := by decide +kernel
theorem dX6_refusal_28 : decode cX6_refusal 28 = .ok (.getfield 11, 3) := by decide +kernel
theorem dX6_refusal_31 : decode cX6_refusal 31 = .ok (.iload_n 1, 1) := by decide +kernel
theorem dX6_refusal_32 : decode cX6_refusal 32 = .ok (.iaload, 1) := by decide +kernel
theorem dX6_refusal_33 : decode cX6_refusal 33 = .ok (.iload_n 2, 1) := by decide +kernel
theorem dX6_refusal_34 : decode cX6_refusal 34 = .ok (.if_icmp .eq 6, 3) := by decide +kernel
theorem dX6_refusal_37 : decode cX6_refusal 37 = .ok (.bipush (-12), 2) := by decide +kernel
theorem dX6_refusal_39 : decode cX6_refusal 39 = .ok (.ireturn, 1) := by decide +kernel
theorem dX6_refusal_40 : decode cX6_refusal 40 = .ok (.aload_n 0, 1) := by decide +kernel
theorem dX6_refusal_41 : decode cX6_refusal 41 = .ok (.iload_n 1, 1) := by decide +kernel
theorem dX6_refusal_42 : decode cX6_refusal 42 = .ok (.iload_n 3, 1) := by decide +kernel
theorem dX6_refusal_43 : decode cX6_refusal 43 = .ok (.iload 4, 2) := by decide +kernel
theorem dX6_refusal_45 : decode cX6_refusal 45 = .ok (.invokevirtual 32, 3) := by decide +kernel
theorem dX6_refusal_48 : decode cX6_refusal 48 = .ok (.ifCond .eq 7, 3) := by decide +kernel
theorem dX6_refusal_51 : decode cX6_refusal 51 = .ok (.iconst 0, 1) := by decide +kernel
theorem dX6_refusal_52 : decode cX6_refusal 52 = .ok (.goto 5, 3) := by decide +kernel
theorem dX6_refusal_55 : decode cX6_refusal 55 = .ok (.bipush (-13), 2) := by decide +kernel
theorem dX6_refusal_57 : decode cX6_refusal 57 = .ok (.ireturn, 1) := by decide +kernel
theorem dX6_renew_0 : decode cX6_renew 0 = .ok (.aload_n 0, 1) := by decide +kernel
theorem dX6_renew_1 : decode cX6_renew 1 = .ok (.getfield 11, 3) := by decide +kernel
theorem dX6_renew_4 : decode cX6_renew 4 = .ok (.iload_n 1, 1) := by decide +kernel
theorem dX6_renew_5 : decode cX6_renew 5 = .ok (.iload_n 2, 1) := by decide +kernel
theorem dX6_renew_6 : decode cX6_renew 6 = .ok (.iastore, 1) := by decide +kernel
theorem dX6_renew_7 : decode cX6_renew 7 = .ok (.aload_n 0, 1) := by decide +kernel
theorem dX6_renew_8 : decode cX6_renew 8 = .ok (.getfield 15, 3) := by decide +kernel
theorem dX6_renew_11 : decode cX6_renew 11 = .ok (.iload_n 1, 1) := by decide +kernel
theorem dX6_renew_12 : decode cX6_renew 12 = .ok (.iload_n 3, 1) := by decide +kernel
theorem dX6_renew_13 : decode cX6_renew 13 = .ok (.iastore, 1) := by decide +kernel
theorem dX6_renew_14 : decode cX6_renew 14 = .ok (.aload_n 0, 1) := by decide +kernel
theorem dX6_renew_15 : decode cX6_renew 15 = .ok (.getfield 18, 3) := by decide +kernel
theorem dX6_renew_18 : decode cX6_renew 18 = .ok (.iload_n 1, 1) := by decide +kernel
theorem dX6_renew_19 : decode cX6_renew 19 = .ok (.bipush 24, 2) := by decide +kernel
theorem dX6_renew_21 : decode cX6_renew 21 = .ok (.imul, 1) := by decide +kernel
theorem dX6_renew_22 : decode cX6_renew 22 = .ok (.iload_n 1, 1) := by decide +kernel
theorem dX6_renew_23 : decode cX6_renew 23 = .ok (.iconst 1, 1) := by decide +kernel
theorem dX6_renew_24 : decode cX6_renew 24 = .ok (.iadd, 1) := by decide +kernel
theorem dX6_renew_25 : decode cX6_renew 25 = .ok (.bipush 24, 2) := by decide +kernel
theorem dX6_renew_27 : decode cX6_renew 27 = .ok (.imul, 1) := by decide +kernel
theorem dX6_renew_28 : decode cX6_renew 28 = .ok (.lconst 0, 1) := by decide +kernel
theorem dX6_renew_29 : decode cX6_renew 29 = .ok (.invokestatic 36, 3) := by decide +kernel
theorem dX6_renew_32 : decode cX6_renew 32 = .ok (.return_, 1) := by decide +kernel
theorem dX6_lose_0 : decode cX6_lose 0 = .ok (.aload_n 0, 1) := by decide +kernel
theorem dX6_lose_1 : decode cX6_lose 1 = .ok (.getfield 11, 3) := by decide +kernel
theorem dX6_lose_4 : decode cX6_lose 4 = .ok (.iload_n 1, 1) := by decide +kernel
theorem dX6_lose_5 : decode cX6_lose 5 = .ok (.iconst (-1), 1) := by decide +kernel
theorem dX6_lose_6 : decode cX6_lose 6 = .ok (.iastore, 1) := by decide +kernel
theorem dX6_lose_7 : decode cX6_lose 7 = .ok (.aload_n 0, 1) := by decide +kernel
theorem dX6_lose_8 : decode cX6_lose 8 = .ok (.getfield 15, 3) := by decide +kernel
theorem dX6_lose_11 : decode cX6_lose 11 = .ok (.iload_n 1, 1) := by decide +kernel
theorem dX6_lose_12 : decode cX6_lose 12 = .ok (.iconst 0, 1) := by decide +kernel
theorem dX6_lose_13 : decode cX6_lose 13 = .ok (.iastore, 1) := by decide +kernel
theorem dX6_lose_14 : decode cX6_lose 14 = .ok (.return_, 1) := by decide +kernel
theorem dX6_itemAt_0 : decode cX6_itemAt 0 = .ok (.aload_n 0, 1) := by decide +kernel
theorem dX6_itemAt_1 : decode cX6_itemAt 1 = .ok (.getfield 18, 3) := by decide +kernel
theorem dX6_itemAt_4 : decode cX6_itemAt 4 = .ok (.iload_n 1, 1) := by decide +kernel
theorem dX6_itemAt_5 : decode cX6_itemAt 5 = .ok (.bipush 24, 2) := by decide +kernel
theorem dX6_itemAt_7 : decode cX6_itemAt 7 = .ok (.imul, 1) := by decide +kernel
theorem dX6_itemAt_8 : decode cX6_itemAt 8 = .ok (.iload_n 2, 1) := by decide +kernel
theorem dX6_itemAt_9 : decode cX6_itemAt 9 = .ok (.iadd, 1) := by decide +kernel
theorem dX6_itemAt_10 : decode cX6_itemAt 10 = .ok (.laload, 1) := by decide +kernel
theorem dX6_itemAt_11 : decode cX6_itemAt 11 = .ok (.lreturn, 1) := by decide +kernel
theorem dX6_setItem_0 : decode cX6_setItem 0 = .ok (.aload_n 0, 1) := by decide +kernel
theorem dX6_setItem_1 : decode cX6_setItem 1 = .ok (.getfield 18, 3) := by decide +kernel
theorem dX6_setItem_4 : decode cX6_setItem 4 = .ok (.iload_n 1, 1) := by decide +kernel
theorem dX6_setItem_5 : decode cX6_setItem 5 = .ok (.bipush 24, 2) := by decide +kernel
theorem dX6_setItem_7 : decode cX6_setItem 7 = .ok (.imul, 1) := by decide +kernel
theorem dX6_setItem_8 : decode cX6_setItem 8 = .ok (.iload_n 2, 1) := by decide +kernel
theorem dX6_setItem_9 : decode cX6_setItem 9 = .ok (.iadd, 1) := by decide +kernel
theorem dX6_setItem_10 : decode cX6_setItem 10 = .ok (.aload_n 0, 1) := by decide +kernel
theorem dX6_setItem_11 : decode cX6_setItem 11 = .ok (.getfield 11, 3) := by decide +kernel
theorem dX6_setItem_14 : decode cX6_setItem 14 = .ok (.iload_n 1, 1) := by decide +kernel
theorem dX6_setItem_15 : decode cX6_setItem 15 = .ok (.iaload, 1) := by decide +kernel
theorem dX6_setItem_16 : decode cX6_setItem 16 = .ok (.lload_n 3, 1) := by decide +kernel
theorem dX6_setItem_17 : decode cX6_setItem 17 = .ok (.invokestatic 42, 3) := by decide +kernel
theorem dX6_setItem_20 : decode cX6_setItem 20 = .ok (.lastore, 1) := by decide +kernel
theorem dX6_setItem_21 : decode cX6_setItem 21 = .ok (.return_, 1) := by decide +kernel
theorem dX6_narrowed_0 : decode cX6_narrowed 0 = .ok (.iload_n 0, 1) := by decide +kernel
theorem dX6_narrowed_1 : decode cX6_narrowed 1 = .ok (.tableswitch 41 0 2 #[27, 32, 37], 27) := by decide +kernel
theorem dX6_narrowed_28 : decode cX6_narrowed 28 = .ok (.lload_n 1, 1) := by decide +kernel
theorem dX6_narrowed_29 : decode cX6_narrowed 29 = .ok (.l2i, 1) := by decide +kernel
theorem dX6_narrowed_30 : decode cX6_narrowed 30 = .ok (.i2b, 1) := by decide +kernel
theorem dX6_narrowed_31 : decode cX6_narrowed 31 = .ok (.i2l, 1) := by decide +kernel
theorem dX6_narrowed_32 : decode cX6_narrowed 32 = .ok (.lreturn, 1) := by decide +kernel
theorem dX6_narrowed_33 : decode cX6_narrowed 33 = .ok (.lload_n 1, 1) := by decide +kernel
theorem dX6_narrowed_34 : decode cX6_narrowed 34 = .ok (.l2i, 1) := by decide +kernel
theorem dX6_narrowed_35 : decode cX6_narrowed 35 = .ok (.i2s, 1) := by decide +kernel
theorem dX6_narrowed_36 : decode cX6_narrowed 36 = .ok (.i2l, 1) := by decide +kernel
theorem dX6_narrowed_37 : decode cX6_narrowed 37 = .ok (.lreturn, 1) := by decide +kernel
theorem dX6_narrowed_38 : decode cX6_narrowed 38 = .ok (.lload_n 1, 1) := by decide +kernel
theorem dX6_narrowed_39 : decode cX6_narrowed 39 = .ok (.l2i, 1) := by decide +kernel
theorem dX6_narrowed_40 : decode cX6_narrowed 40 = .ok (.i2l, 1) := by decide +kernel
theorem dX6_narrowed_41 : decode cX6_narrowed 41 = .ok (.lreturn, 1) := by decide +kernel
theorem dX6_narrowed_42 : decode cX6_narrowed 42 = .ok (.lload_n 1, 1) := by decide +kernel
theorem dX6_narrowed_43 : decode cX6_narrowed 43 = .ok (.lreturn, 1) := by decide +kernel
theorem dX6_move_0 : decode cX6_move 0 = .ok (.aload_n 0, 1) := by decide +kernel
theorem dX6_move_1 : decode cX6_move 1 = .ok (.getfield 18, 3) := by decide +kernel
theorem dX6_move_4 : decode cX6_move 4 = .ok (.iload_n 1, 1) := by decide +kernel
theorem dX6_move_5 : decode cX6_move 5 = .ok (.bipush 24, 2) := by decide +kernel
theorem dX6_move_7 : decode cX6_move 7 = .ok (.imul, 1) := by decide +kernel
theorem dX6_move_8 : decode cX6_move 8 = .ok (.iload_n 2, 1) := by decide +kernel
theorem dX6_move_9 : decode cX6_move 9 = .ok (.iadd, 1) := by decide +kernel
theorem dX6_move_10 : decode cX6_move 10 = .ok (.aload_n 0, 1) := by decide +kernel
theorem dX6_move_11 : decode cX6_move 11 = .ok (.getfield 18, 3) := by decide +kernel
theorem dX6_move_14 : decode cX6_move 14 = .ok (.iload_n 3, 1) := by decide +kernel
theorem dX6_move_15 : decode cX6_move 15 = .ok (.bipush 24, 2) := by decide +kernel
theorem dX6_move_17 : decode cX6_move 17 = .ok (.imul, 1) := by decide +kernel
theorem dX6_move_18 : decode cX6_move 18 = .ok (.iload 4, 2) := by decide +kernel
theorem dX6_move_20 : decode cX6_move 20 = .ok (.iadd, 1) := by decide +kernel
theorem dX6_move_21 : decode cX6_move 21 = .ok (.iload 5, 2) := by decide +kernel
theorem dX6_move_23 : decode cX6_move 23 = .ok (.invokestatic 46, 3) := by decide +kernel
theorem dX6_move_26 : decode cX6_move 26 = .ok (.return_, 1) := by decide +kernel
theorem dX7_init_0 : decode cX7_init 0 = .ok (.aload_n 0, 1) := by decide +kernel
theorem dX7_init_1 : decode cX7_init 1 = .ok (.invokespecial 3, 3) := by decide +kernel
theorem dX7_init_4 : decode cX7_init 4 = .ok (.aload_n 0, 1) := by decide +kernel
theorem dX7_init_5 : decode cX7_init 5 = .ok (.bipush 80, 2) := by decide +kernel
theorem dX7_init_7 : decode cX7_init 7 = .ok (.newarray .int, 2) := by decide +kernel
theorem dX7_init_9 : decode cX7_init 9 = .ok (.putfield 11, 3) := by decide +kernel
theorem dX7_init_12 : decode cX7_init 12 = .ok (.aload_n 0, 1) := by decide +kernel
theorem dX7_init_13 : decode cX7_init 13 = .ok (.iconst 0, 1) := by decide +kernel
theorem dX7_init_14 : decode cX7_init 14 = .ok (.putfield 15, 3) := by decide +kernel
theorem dX7_init_17 : decode cX7_init 17 = .ok (.aload_n 0, 1) := by decide +kernel
theorem dX7_init_18 : decode cX7_init 18 = .ok (.iconst 0, 1) := by decide +kernel
theorem dX7_init_19 : decode cX7_init 19 = .ok (.putfield 19, 3) := by decide +kernel
theorem dX7_init_22 : decode cX7_init 22 = .ok (.aload_n 0, 1) := by decide +kernel
theorem dX7_init_23 : decode cX7_init 23 = .ok (.iconst 0, 1) := by decide +kernel
theorem dX7_init_24 : decode cX7_init 24 = .ok (.putfield 22, 3) := by decide +kernel
theorem dX7_init_27 : decode cX7_init 27 = .ok (.aload_n 0, 1) := by decide +kernel
theorem dX7_init_28 : decode cX7_init 28 = .ok (.iconst 0, 1) := by decide +kernel
theorem dX7_init_29 : decode cX7_init 29 = .ok (.putfield 25, 3) := by decide +kernel
theorem dX7_init_32 : decode cX7_init 32 = .ok (.aload_n 0, 1) := by decide +kernel
theorem dX7_init_33 : decode cX7_init 33 = .ok (.iconst 0, 1) := by decide +kernel
theorem dX7_init_34 : decode cX7_init 34 = .ok (.putfield 28, 3) := by decide +kernel
theorem dX7_init_37 : decode cX7_init 37 = .ok (.aload_n 0, 1) := by decide +kernel
theorem dX7_init_38 : decode cX7_init 38 = .ok (.iconst 0, 1) := by decide +kernel
theorem dX7_init_39 : decode cX7_init 39 = .ok (.putfield 31, 3) := by decide +kernel
theorem dX7_init_42 : decode cX7_init 42 = .ok (.aload_n 0, 1) := by decide +kernel
theorem dX7_init_43 : decode cX7_init 43 = .ok (.bipush 36, 2) := by decide +kernel
theorem dX7_init_45 : decode cX7_init 45 = .ok (.newarray .int, 2) := by decide +kernel
theorem dX7_init_47 : decode cX7_init 47 = .ok (.putfield 34, 3) := by decide +kernel
theorem dX7_init_50 : decode cX7_init 50 = .ok (.aload_n 0, 1) := by decide +kernel
theorem dX7_init_51 : decode cX7_init 51 = .ok (.bipush 36, 2) := by decide +kernel
theorem dX7_init_53 : decode cX7_init 53 = .ok (.newarray .boolean, 2) := by decide +kernel
theorem dX7_init_55 : decode cX7_init 55 = .ok (.putfield 37, 3) := by decide +kernel
theorem dX7_init_58 : decode cX7_init 58 = .ok (.return_, 1) := by decide +kernel
theorem dX7_append_0 : decode cX7_append 0 = .ok (.aload_n 0, 1) := by decide +kernel
theorem dX7_append_1 : decode cX7_append 1 = .ok (.getfield 15, 3) := by decide +kernel
theorem dX7_append_4 : decode cX7_append 4 = .ok (.bipush 80, 2) := by decide +kernel
theorem dX7_append_6 : decode cX7_append 6 = .ok (.if_icmp .lt 6, 3) := by decide +kernel
theorem dX7_append_9 : decode cX7_append 9 = .ok (.bipush (-3), 2) := by decide +kernel
theorem dX7_append_11 : decode cX7_append 11 = .ok (.ireturn, 1) := by decide +kernel
theorem dX7_append_12 : decode cX7_append 12 = .ok (.aload_n 0, 1) := by decide +kernel
theorem dX7_append_13 : decode cX7_append 13 = .ok (.getfield 11, 3) := by decide +kernel
theorem dX7_append_16 : decode cX7_append 16 = .ok (.aload_n 0, 1) := by decide +kernel
theorem dX7_append_17 : decode cX7_append 17 = .ok (.getfield 15, 3) := by decide +kernel
theorem dX7_append_20 : decode cX7_append 20 = .ok (.iload_n 1, 1) := by decide +kernel
theorem dX7_append_21 : decode cX7_append 21 = .ok (.iastore, 1) := by decide +kernel
theorem dX7_append_22 : decode cX7_append 22 = .ok (.aload_n 0, 1) := by decide +kernel
theorem dX7_append_23 : decode cX7_append 23 = .ok (.dup, 1) := by decide +kernel
theorem dX7_append_24 : decode cX7_append 24 = .ok (.getfield 15, 3) := by decide +kernel
theorem dX7_append_27 : decode cX7_append 27 = .ok (.iconst 1, 1) := by decide +kernel
theorem dX7_append_28 : decode cX7_append 28 = .ok (.iadd, 1) := by decide +kernel
theorem dX7_append_29 : decode cX7_append 29 = .ok (.putfield 15, 3) := by decide +kernel
theorem dX7_append_32 : decode cX7_append 32 = .ok (.aload_n 0, 1) := by decide +kernel
theorem dX7_append_33 : decode cX7_append 33 = .ok (.getfield 15, 3) := by decide +kernel
theorem dX7_append_36 : decode cX7_append 36 = .ok (.ireturn, 1) := by decide +kernel
theorem dX7_empty_0 : decode cX7_empty 0 = .ok (.aload_n 0, 1) := by decide +kernel
theorem dX7_empty_1 : decode cX7_empty 1 = .ok (.iconst 0, 1) := by decide +kernel
theorem dX7_empty_2 : decode cX7_empty 2 = .ok (.putfield 15, 3) := by decide +kernel
theorem dX7_empty_5 : decode cX7_empty 5 = .ok (.return_, 1) := by decide +kernel
theorem dX7_parse_0 : decode cX7_parse 0 = .ok (.aload_n 0, 1) := by decide +kernel
theorem dX7_parse_1 : decode cX7_parse 1 = .ok (.iconst 0, 1) := by decide +kernel
theorem dX7_parse_2 : decode cX7_parse 2 = .ok (.putfield 19, 3) := by decide +kernel
theorem dX7_parse_5 : decode cX7_parse 5 = .ok (.aload_n 0, 1) := by decide +kernel
theorem dX7_parse_6 : decode cX7_parse 6 = .ok (.iconst 0, 1) := by decide +kernel
theorem dX7_parse_7 : decode cX7_parse 7 = .ok (.putfield 31, 3) := by decide +kernel
theorem dX7_parse_10 : decode cX7_parse 10 = .ok (.aload_n 0, 1) := by decide +kernel
theorem dX7_parse_11 : decode cX7_parse 11 = .ok (.getfield 34, 3) := by decide +kernel
theorem dX7_parse_14 : decode cX7_parse 14 = .ok (.iconst 0, 1) := by decide +kernel
theorem dX7_parse_15 : decode cX7_parse 15 = .ok (.invokestatic 41, 3) := by decide +kernel
theorem dX7_parse_18 : decode cX7_parse 18 = .ok (.iconst 0, 1) := by decide +kernel
theorem dX7_parse_19 : decode cX7_parse 19 = .ok (.istore_n 2, 1) := by decide +kernel
theorem dX7_parse_20 : decode cX7_parse 20 = .ok (.iload_n 2, 1) := by decide +kernel
theorem dX7_parse_21 : decode cX7_parse 21 = .ok (.aload_n 0, 1) := by decide +kernel
theorem dX7_parse_22 : decode cX7_parse 22 = .ok (.getfield 15, 3) := by decide +kernel
theorem dX7_parse_25 : decode cX7_parse 25 = .ok (.if_icmp .ge 39, 3) := by decide +kernel
theorem dX7_parse_28 : decode cX7_parse 28 = .ok (.aload_n 0, 1) := by decide +kernel
theorem dX7_parse_29 : decode cX7_parse 29 = .ok (.getfield 11, 3) := by decide +kernel
theorem dX7_parse_32 : decode cX7_parse 32 = .ok (.iload_n 2, 1) := by decide +kernel
theorem dX7_parse_33 : decode cX7_parse 33 = .ok (.iaload, 1) := by decide +kernel
theorem dX7_parse_34 : decode cX7_parse 34 = .ok (.bipush 32, 2) := by decide +kernel
theorem dX7_parse_36 : decode cX7_parse 36 = .ok (.if_icmp .eq 22, 3) := by decide +kernel
theorem dX7_parse_39 : decode cX7_parse 39 = .ok (.aload_n 0, 1) := by decide +kernel
theorem dX7_parse_40 : decode cX7_parse 40 = .ok (.aload_n 0, 1) := by decide +kernel
theorem dX7_parse_41 : decode cX7_parse 41 = .ok (.getfield 11, 3) := by decide +kernel
theorem dX7_parse_44 : decode cX7_parse 44 = .ok (.iload_n 2, 1) := by decide +kernel
theorem dX7_parse_45 : decode cX7_parse 45 = .ok (.iaload, 1) := by decide +kernel
theorem dX7_parse_46 : decode cX7_parse 46 = .ok (.iload_n 1, 1) := by decide +kernel
theorem dX7_parse_47 : decode cX7_parse 47 = .ok (.invokevirtual 47, 3) := by decide +kernel
theorem dX7_parse_50 : decode cX7_parse 50 = .ok (.ifCond .ne 8, 3) := by decide +kernel
theorem dX7_parse_53 : decode cX7_parse 53 = .ok (.bipush (-20), 2) := by decide +kernel
theorem dX7_parse_55 : decode cX7_parse 55 = .ok (.iload_n 2, 1) := by decide +kernel
theorem dX7_parse_56 : decode cX7_parse 56 = .ok (.isub, 1) := by decide +kernel
theorem dX7_parse_57 : decode cX7_parse 57 = .ok (.ireturn, 1) := by decide +kernel
theorem dX7_parse_58 : decode cX7_parse 58 = .ok (.iinc 2 1, 3) := by decide +kernel
theorem dX7_parse_61 : decode cX7_parse 61 = .ok (.goto (-41), 3) := by decide +kernel
theorem dX7_parse_64 : decode cX7_parse 64 = .ok (.aload_n 0, 1) := by decide +kernel
theorem dX7_parse_65 : decode cX7_parse 65 = .ok (.getfield 19, 3) := by decide +kernel
theorem dX7_parse_68 : decode cX7_parse 68 = .ok (.ifCond .eq 19, 3) := by decide +kernel
theorem dX7_parse_71 : decode cX7_parse 71 = .ok (.aload_n 0, 1) := by decide +kernel
theorem dX7_parse_72 : decode cX7_parse 72 = .ok (.getfield 19, 3) := by decide +kernel
theorem dX7_parse_75 : decode cX7_parse 75 = .ok (.iconst 4, 1) := by decide +kernel
theorem dX7_parse_76 : decode cX7_parse 76 = .ok (.if_icmp .eq 11, 3) := by decide +kernel
theorem dX7_parse_79 : decode cX7_parse 79 = .ok (.aload_n 0, 1) := by decide +kernel
theorem dX7_parse_80 : decode cX7_parse 80 = .ok (.getfield 19, 3) := by decide +kernel
theorem dX7_parse_83 : decode cX7_parse 83 = .ok (.iconst 5, 1) := by decide +kernel
theorem dX7_parse_84 : decode cX7_parse 84 = .ok (.if_icmp .ne 7, 3) := by decide +kernel
theorem dX7_parse_87 : decode cX7_parse 87 = .ok (.iconst 1, 1) := by decide +kernel
theorem dX7_parse_88 : decode cX7_parse 88 = .ok (.goto 4, 3) := by decide +kernel
theorem dX7_parse_91 : decode cX7_parse 91 = .ok (.iconst 0, 1) := by decide +kernel
theorem dX7_parse_92 : decode cX7_parse 92 = .ok (.istore_n 2, 1) := by decide +kernel
theorem dX7_parse_93 : decode cX7_parse 93 = .ok (.iload_n 2, 1) := by decide +kernel
theorem dX7_parse_94 : decode cX7_parse 94 = .ok (.ifCond .eq 10, 3) := by decide +kernel
theorem dX7_parse_97 : decode cX7_parse 97 = .ok (.aload_n 0, 1) := by decide +kernel
theorem dX7_parse_98 : decode cX7_parse 98 = .ok (.getfield 31, 3) := by decide +kernel
theorem dX7_parse_101 : decode cX7_parse 101 = .ok (.goto 10, 3) := by decide +kernel
theorem dX7_parse_104 : decode cX7_parse 104 = .ok (.bipush (-20), 2) := by decide +kernel
theorem dX7_parse_106 : decode cX7_parse 106 = .ok (.aload_n 0, 1) := by decide +kernel
theorem dX7_parse_107 : decode cX7_parse 107 = .ok (.getfield 15, 3) := by decide +kernel
theorem dX7_parse_110 : decode cX7_parse 110 = .ok (.isub, 1) := by decide +kernel
theorem dX7_parse_111 : decode cX7_parse 111 = .ok (.ireturn, 1) := by decide +kernel
theorem dX7_accepts_0 : decode cX7_accepts 0 = .ok (.aload_n 0, 1) := by decide +kernel
theorem dX7_accepts_1 : decode cX7_accepts 1 = .ok (.getfield 19, 3) := by decide +kernel
theorem dX7_accepts_4 : decode cX7_accepts 4 = .ok (.tableswitch 58 0 3 #[32, 32, 42, 48], 32) := by decide +kernel
theorem dX7_accepts_36 : decode cX7_accepts 36 = .ok (.aload_n 0, 1) := by decide +kernel
theorem dX7_accepts_37 : decode cX7_accepts 37 = .ok (.iload_n 1, 1) := by decide +kernel
theorem dX7_accepts_38 : decode cX7_accepts 38 = .ok (.bipush 48, 2) := by decide +kernel
theorem dX7_accepts_40 : decode cX7_accepts 40 = .ok (.isub, 1) := by decide +kernel
theorem dX7_accepts_41 : decode cX7_accepts 41 = .ok (.iload_n 2, 1) := by decide +kernel
theorem dX7_accepts_42 : decode cX7_accepts 42 = .ok (.invokevirtual 51, 3) := by decide +kernel
theorem dX7_accepts_45 : decode cX7_accepts 45 = .ok (.ireturn, 1) := by decide +kernel
theorem dX7_accepts_46 : decode cX7_accepts 46 = .ok (.aload_n 0, 1) := by decide +kernel
theorem dX7_accepts_47 : decode cX7_accepts 47 = .ok (.iload_n 1, 1) := by decide +kernel
theorem dX7_accepts_48 : decode cX7_accepts 48 = .ok (.invokevirtual 54, 3) := by decide +kernel
theorem dX7_accepts_51 : decode cX7_accepts 51 = .ok (.ireturn, 1) := by decide +kernel
theorem dX7_accepts_52 : decode cX7_accepts 52 = .ok (.aload_n 0, 1) := by decide +kernel
theorem dX7_accepts_53 : decode cX7_accepts 53 = .ok (.iload_n 1, 1) := by decide +kernel
theorem dX7_accepts_54 : decode cX7_accepts 54 = .ok (.bipush 48, 2) := by decide +kernel
theorem dX7_accepts_56 : decode cX7_accepts 56 = .ok (.isub, 1) := by decide +kernel
theorem dX7_accepts_57 : decode cX7_accepts 57 = .ok (.iload_n 2, 1) := by decide +kernel
theorem dX7_accepts_58 : decode cX7_accepts 58 = .ok (.invokevirtual 58, 3) := by decide +kernel
theorem dX7_accepts_61 : decode cX7_accepts 61 = .ok (.ireturn, 1) := by decide +kernel
theorem dX7_accepts_62 : decode cX7_accepts 62 = .ok (.aload_n 0, 1) := by decide +kernel
theorem dX7_accepts_63 : decode cX7_accepts 63 = .ok (.iload_n 1, 1) := by decide +kernel
theorem dX7_accepts_64 : decode cX7_accepts 64 = .ok (.invokevirtual 61, 3) := by decide +kernel
theorem dX7_accepts_67 : decode cX7_accepts 67 = .ok (.ireturn, 1) := by decide +kernel
theorem dX7_acceptsFirst_0 : decode cX7_acceptsFirst 0 = .ok (.iload_n 1, 1) := by decide +kernel
theorem dX7_acceptsFirst_1 : decode cX7_acceptsFirst 1 = .ok (.ifCond .lt 8, 3) := by decide +kernel
theorem dX7_acceptsFirst_4 : decode cX7_acceptsFirst 4 = .ok (.iload_n 1, 1) := by decide +kernel
theorem dX7_acceptsFirst_5 : decode cX7_acceptsFirst 5 = .ok (.iload_n 2, 1) := by decide +kernel
theorem dX7_acceptsFirst_6 : decode cX7_acceptsFirst 6 = .ok (.if_icmp .lt 5, 3) := by decide +kernel
theorem dX7_acceptsFirst_9 : decode cX7_acceptsFirst 9 = .ok (.iconst 0, 1) := by decide +kernel
theorem dX7_acceptsFirst_10 : decode cX7_acceptsFirst 10 = .ok (.ireturn, 1) := by decide +kernel
theorem dX7_acceptsFirst_11 : decode cX7_acceptsFirst 11 = .ok (.aload_n 0, 1) := by decide +kernel
theorem dX7_acceptsFirst_12 : decode cX7_acceptsFirst 12 = .ok (.iload_n 1, 1) := by decide +kernel
theorem dX7_acceptsFirst_13 : decode cX7_acceptsFirst 13 = .ok (.putfield 22, 3) := by decide +kernel
theorem dX7_acceptsFirst_16 : decode cX7_acceptsFirst 16 = .ok (.aload_n 0, 1) := by decide +kernel
theorem dX7_acceptsFirst_17 : decode cX7_acceptsFirst 17 = .ok (.iconst 2, 1) := by decide +kernel
theorem dX7_acceptsFirst_18 : decode cX7_acceptsFirst 18 = .ok (.putfield 19, 3) := by decide +kernel
theorem dX7_acceptsFirst_21 : decode cX7_acceptsFirst 21 = .ok (.iconst 1, 1) := by decide +kernel
theorem dX7_acceptsFirst_22 : decode cX7_acceptsFirst 22 = .ok (.ireturn, 1) := by decide +kernel
theorem dX7_acceptsSign_0 : decode cX7_acceptsSign 0 = .ok (.aload_n 0, 1) := by decide +kernel
theorem dX7_acceptsSign_1 : decode cX7_acceptsSign 1 = .ok (.iload_n 1, 1) := by decide +kernel
theorem dX7_acceptsSign_2 : decode cX7_acceptsSign 2 = .ok (.bipush 62, 2) := by decide +kernel
theorem dX7_acceptsSign_4 : decode cX7_acceptsSign 4 = .ok (.if_icmp .ne 7, 3) := by decide +kernel
theorem dX7_acceptsSign_7 : decode cX7_acceptsSign 7 = .ok (.iconst 1, 1) := by decide +kernel
theorem dX7_acceptsSign_8 : decode cX7_acceptsSign 8 = .ok (.goto 24, 3) := by decide +kernel
theorem dX7_acceptsSign_11 : decode cX7_acceptsSign 11 = .ok (.iload_n 1, 1) := by decide +kernel
theorem dX7_acceptsSign_12 : decode cX7_acceptsSign 12 = .ok (.bipush 45, 2) := by decide +kernel
theorem dX7_acceptsSign_14 : decode cX7_acceptsSign 14 = .ok (.if_icmp .ne 7, 3) := by decide +kernel
theorem dX7_acceptsSign_17 : decode cX7_acceptsSign 17 = .ok (.iconst 2, 1) := by decide +kernel
theorem dX7_acceptsSign_18 : decode cX7_acceptsSign 18 = .ok (.goto 14, 3) := by decide +kernel
theorem dX7_acceptsSign_21 : decode cX7_acceptsSign 21 = .ok (.iload_n 1, 1) := by decide +kernel
theorem dX7_acceptsSign_22 : decode cX7_acceptsSign 22 = .ok (.bipush 60, 2) := by decide +kernel
theorem dX7_acceptsSign_24 : decode cX7_acceptsSign 24 = .ok (.if_icmp .ne 7, 3) := by decide +kernel
theorem dX7_acceptsSign_27 : decode cX7_acceptsSign 27 = .ok (.iconst 3, 1) := by decide +kernel
theorem dX7_acceptsSign_28 : decode cX7_acceptsSign 28 = .ok (.goto 4, 3) := by decide +kernel
theorem dX7_acceptsSign_31 : decode cX7_acceptsSign 31 = .ok (.iconst 0, 1) := by decide +kernel
theorem dX7_acceptsSign_32 : decode cX7_acceptsSign 32 = .ok (.putfield 28, 3) := by decide +kernel
theorem dX7_acceptsSign_35 : decode cX7_acceptsSign 35 = .ok (.aload_n 0, 1) := by decide +kernel
theorem dX7_acceptsSign_36 : decode cX7_acceptsSign 36 = .ok (.iconst 3, 1) := by decide +kernel
theorem dX7_acceptsSign_37 : decode cX7_acceptsSign 37 = .ok (.putfield 19, 3) := by decide +kernel
theorem dX7_acceptsSign_40 : decode cX7_acceptsSign 40 = .ok (.aload_n 0, 1) := by decide +kernel
theorem dX7_acceptsSign_41 : decode cX7_acceptsSign 41 = .ok (.getfield 28, 3) := by decide +kernel
theorem dX7_acceptsSign_44 : decode cX7_acceptsSign 44 = .ok (.ifCond .eq 7, 3) := by decide +kernel
theorem dX7_acceptsSign_47 : decode cX7_acceptsSign 47 = .ok (.iconst 1, 1) := by decide +kernel
theorem dX7_acceptsSign_48 : decode cX7_acceptsSign 48 = .ok (.goto 4, 3) := by decide +kernel
theorem dX7_acceptsSign_51 : decode cX7_acceptsSign 51 = .ok (.iconst 0, 1) := by decide +kernel
theorem dX7_acceptsSign_52 : decode cX7_acceptsSign 52 = .ok (.ireturn, 1) := by decide +kernel
theorem dX7_acceptsSecond_0 : decode cX7_acceptsSecond 0 = .ok (.iload_n 1, 1) := by decide +kernel
theorem dX7_acceptsSecond_1 : decode cX7_acceptsSecond 1 = .ok (.ifCond .lt 33, 3) := by decide +kernel
theorem dX7_acceptsSecond_4 : decode cX7_acceptsSecond 4 = .ok (.iload_n 1, 1) := by decide +kernel
theorem dX7_acceptsSecond_5 : decode cX7_acceptsSecond 5 = .ok (.iload_n 2, 1) := by decide +kernel
theorem dX7_acceptsSecond_6 : decode cX7_acceptsSecond 6 = .ok (.if_icmp .ge 28, 3) := by decide +kernel
theorem dX7_acceptsSecond_9 : decode cX7_acceptsSecond 9 = .ok (.iload_n 1, 1) := by decide +kernel
theorem dX7_acceptsSecond_10 : decode cX7_acceptsSecond 10 = .ok (.aload_n 0, 1) := by decide +kernel
theorem dX7_acceptsSecond_11 : decode cX7_acceptsSecond 11 = .ok (.getfield 22, 3) := by decide +kernel
theorem dX7_acceptsSecond_14 : decode cX7_acceptsSecond 14 = .ok (.if_icmp .eq 20, 3) := by decide +kernel
theorem dX7_acceptsSecond_17 : decode cX7_acceptsSecond 17 = .ok (.aload_n 0, 1) := by decide +kernel
theorem dX7_acceptsSecond_18 : decode cX7_acceptsSecond 18 = .ok (.getfield 34, 3) := by decide +kernel
theorem dX7_acceptsSecond_21 : decode cX7_acceptsSecond 21 = .ok (.aload_n 0, 1) := by decide +kernel
theorem dX7_acceptsSecond_22 : decode cX7_acceptsSecond 22 = .ok (.getfield 22, 3) := by decide +kernel
theorem dX7_acceptsSecond_25 : decode cX7_acceptsSecond 25 = .ok (.bipush 6, 2) := by decide +kernel
theorem dX7_acceptsSecond_27 : decode cX7_acceptsSecond 27 = .ok (.imul, 1) := by decide +kernel
theorem dX7_acceptsSecond_28 : decode cX7_acceptsSecond 28 = .ok (.iload_n 1, 1) := by decide +kernel
theorem dX7_acceptsSecond_29 : decode cX7_acceptsSecond 29 = .ok (.iadd, 1) := by decide +kernel
theorem dX7_acceptsSecond_30 : decode cX7_acceptsSecond 30 = .ok (.iaload, 1) := by decide +kernel
theorem dX7_acceptsSecond_31 : decode cX7_acceptsSecond 31 = .ok (.ifCond .eq 5, 3) := by decide +kernel
theorem dX7_acceptsSecond_34 : decode cX7_acceptsSecond 34 = .ok (.iconst 0, 1) := by decide +kernel
theorem dX7_acceptsSecond_35 : decode cX7_acceptsSecond 35 = .ok (.ireturn, 1) := by decide +kernel
theorem dX7_acceptsSecond_36 : decode cX7_acceptsSecond 36 = .ok (.aload_n 0, 1) := by decide +kernel
theorem dX7_acceptsSecond_37 : decode cX7_acceptsSecond 37 = .ok (.iload_n 1, 1) := by decide +kernel
theorem dX7_acceptsSecond_38 : decode cX7_acceptsSecond 38 = .ok (.putfield 25, 3) := by decide +kernel
theorem dX7_acceptsSecond_41 : decode cX7_acceptsSecond 41 = .ok (.aload_n 0, 1) := by decide +kernel
theorem dX7_acceptsSecond_42 : decode cX7_acceptsSecond 42 = .ok (.getfield 34, 3) := by decide +kernel
theorem dX7_acceptsSecond_45 : decode cX7_acceptsSecond 45 = .ok (.aload_n 0, 1) := by decide +kernel
theorem dX7_acceptsSecond_46 : decode cX7_acceptsSecond 46 = .ok (.getfield 22, 3) := by decide +kernel
theorem dX7_acceptsSecond_49 : decode cX7_acceptsSecond 49 = .ok (.bipush 6, 2) := by decide +kernel
theorem dX7_acceptsSecond_51 : decode cX7_acceptsSecond 51 = .ok (.imul, 1) := by decide +kernel
theorem dX7_acceptsSecond_52 : decode cX7_acceptsSecond 52 = .ok (.aload_n 0, 1) := by decide +kernel
theorem dX7_acceptsSecond_53 : decode cX7_acceptsSecond 53 = .ok (.getfield 25, 3) := by decide +kernel
theorem dX7_acceptsSecond_56 : decode cX7_acceptsSecond 56 = .ok (.iadd, 1) := by decide +kernel
theorem dX7_acceptsSecond_57 : decode cX7_acceptsSecond 57 = .ok (.aload_n 0, 1) := by decide +kernel
theorem dX7_acceptsSecond_58 : decode cX7_acceptsSecond 58 = .ok (.getfield 28, 3) := by decide +kernel
theorem dX7_acceptsSecond_61 : decode cX7_acceptsSecond 61 = .ok (.iastore, 1) := by decide +kernel
theorem dX7_acceptsSecond_62 : decode cX7_acceptsSecond 62 = .ok (.aload_n 0, 1) := by decide +kernel
theorem dX7_acceptsSecond_63 : decode cX7_acceptsSecond 63 = .ok (.getfield 34, 3) := by decide +kernel
theorem dX7_acceptsSecond_66 : decode cX7_acceptsSecond 66 = .ok (.aload_n 0, 1) := by decide +kernel
theorem dX7_acceptsSecond_67 : decode cX7_acceptsSecond 67 = .ok (.getfield 25, 3) := by decide +kernel
theorem dX7_acceptsSecond_70 : decode cX7_acceptsSecond 70 = .ok (.bipush 6, 2) := by decide +kernel
theorem dX7_acceptsSecond_72 : decode cX7_acceptsSecond 72 = .ok (.imul, 1) := by decide +kernel
theorem dX7_acceptsSecond_73 : decode cX7_acceptsSecond 73 = .ok (.aload_n 0, 1) := by decide +kernel
theorem dX7_acceptsSecond_74 : decode cX7_acceptsSecond 74 = .ok (.getfield 22, 3) := by decide +kernel
theorem dX7_acceptsSecond_77 : decode cX7_acceptsSecond 77 = .ok (.iadd, 1) := by decide +kernel
theorem dX7_acceptsSecond_78 : decode cX7_acceptsSecond 78 = .ok (.iconst 4, 1) := by decide +kernel
theorem dX7_acceptsSecond_79 : decode cX7_acceptsSecond 79 = .ok (.aload_n 0, 1) := by decide +kernel
theorem dX7_acceptsSecond_80 : decode cX7_acceptsSecond 80 = .ok (.getfield 28, 3) := by decide +kernel
theorem dX7_acceptsSecond_83 : decode cX7_acceptsSecond 83 = .ok (.isub, 1) := by decide +kernel
theorem dX7_acceptsSecond_84 : decode cX7_acceptsSecond 84 = .ok (.iastore, 1) := by decide +kernel
theorem dX7_acceptsSecond_85 : decode cX7_acceptsSecond 85 = .ok (.aload_n 0, 1) := by decide +kernel
theorem dX7_acceptsSecond_86 : decode cX7_acceptsSecond 86 = .ok (.getfield 37, 3) := by decide +kernel
theorem dX7_acceptsSecond_89 : decode cX7_acceptsSecond 89 = .ok (.aload_n 0, 1) := by decide +kernel
theorem dX7_acceptsSecond_90 : decode cX7_acceptsSecond 90 = .ok (.getfield 22, 3) := by decide +kernel
theorem dX7_acceptsSecond_93 : decode cX7_acceptsSecond 93 = .ok (.bipush 6, 2) := by decide +kernel
theorem dX7_acceptsSecond_95 : decode cX7_acceptsSecond 95 = .ok (.imul, 1) := by decide +kernel
theorem dX7_acceptsSecond_96 : decode cX7_acceptsSecond 96 = .ok (.aload_n 0, 1) := by decide +kernel
theorem dX7_acceptsSecond_97 : decode cX7_acceptsSecond 97 = .ok (.getfield 25, 3) := by decide +kernel
theorem dX7_acceptsSecond_100 : decode cX7_acceptsSecond 100 = .ok (.iadd, 1) := by decide +kernel
theorem dX7_acceptsSecond_101 : decode cX7_acceptsSecond 101 = .ok (.iconst 0, 1) := by decide +kernel
theorem dX7_acceptsSecond_102 : decode cX7_acceptsSecond 102 = .ok (.bastore, 1) := by decide +kernel
theorem dX7_acceptsSecond_103 : decode cX7_acceptsSecond 103 = .ok (.aload_n 0, 1) := by decide +kernel
theorem dX7_acceptsSecond_104 : decode cX7_acceptsSecond 104 = .ok (.getfield 37, 3) := by decide +kernel
theorem dX7_acceptsSecond_107 : decode cX7_acceptsSecond 107 = .ok (.aload_n 0, 1) := by decide +kernel
theorem dX7_acceptsSecond_108 : decode cX7_acceptsSecond 108 = .ok (.getfield 25, 3) := by decide +kernel
theorem dX7_acceptsSecond_111 : decode cX7_acceptsSecond 111 = .ok (.bipush 6, 2) := by decide +kernel
theorem dX7_acceptsSecond_113 : decode cX7_acceptsSecond 113 = .ok (.imul, 1) := by decide +kernel
theorem dX7_acceptsSecond_114 : decode cX7_acceptsSecond 114 = .ok (.aload_n 0, 1) := by decide +kernel
theorem dX7_acceptsSecond_115 : decode cX7_acceptsSecond 115 = .ok (.getfield 22, 3) := by decide +kernel
theorem dX7_acceptsSecond_118 : decode cX7_acceptsSecond 118 = .ok (.iadd, 1) := by decide +kernel
theorem dX7_acceptsSecond_119 : decode cX7_acceptsSecond 119 = .ok (.iconst 0, 1) := by decide +kernel
theorem dX7_acceptsSecond_120 : decode cX7_acceptsSecond 120 = .ok (.bastore, 1) := by decide +kernel
theorem dX7_acceptsSecond_121 : decode cX7_acceptsSecond 121 = .ok (.aload_n 0, 1) := by decide +kernel
theorem dX7_acceptsSecond_122 : decode cX7_acceptsSecond 122 = .ok (.dup, 1) := by decide +kernel
theorem dX7_acceptsSecond_123 : decode cX7_acceptsSecond 123 = .ok (.getfield 31, 3) := by decide +kernel
theorem dX7_acceptsSecond_126 : decode cX7_acceptsSecond 126 = .ok (.iconst 1, 1) := by decide +kernel
theorem dX7_acceptsSecond_127 : decode cX7_acceptsSecond 127 = .ok (.iadd, 1) := by decide +kernel
theorem dX7_acceptsSecond_128 : decode cX7_acceptsSecond 128 = .ok (.putfield 31, 3) := by decide +kernel
theorem dX7_acceptsSecond_131 : decode cX7_acceptsSecond 131 = .ok (.aload_n 0, 1) := by decide +kernel
theorem dX7_acceptsSecond_132 : decode cX7_acceptsSecond 132 = .ok (.iconst 4, 1) := by decide +kernel
theorem dX7_acceptsSecond_133 : decode cX7_acceptsSecond 133 = .ok (.putfield 19, 3) := by decide +kernel
theorem dX7_acceptsSecond_136 : decode cX7_acceptsSecond 136 = .ok (.iconst 1, 1) := by decide +kernel
theorem dX7_acceptsSecond_137 : decode cX7_acceptsSecond 137 = .ok (.ireturn, 1) := by decide +kernel
theorem dX7_acceptsBehind_0 : decode cX7_acceptsBehind 0 = .ok (.iload_n 1, 1) := by decide +kernel
theorem dX7_acceptsBehind_1 : decode cX7_acceptsBehind 1 = .ok (.bipush 44, 2) := by decide +kernel
theorem dX7_acceptsBehind_3 : decode cX7_acceptsBehind 3 = .ok (.if_icmp .ne 10, 3) := by decide +kernel
theorem dX7_acceptsBehind_6 : decode cX7_acceptsBehind 6 = .ok (.aload_n 0, 1) := by decide +kernel
theorem dX7_acceptsBehind_7 : decode cX7_acceptsBehind 7 = .ok (.iconst 1, 1) := by decide +kernel
theorem dX7_acceptsBehind_8 : decode cX7_acceptsBehind 8 = .ok (.putfield 19, 3) := by decide +kernel
theorem dX7_acceptsBehind_11 : decode cX7_acceptsBehind 11 = .ok (.iconst 1, 1) := by decide +kernel
theorem dX7_acceptsBehind_12 : decode cX7_acceptsBehind 12 = .ok (.ireturn, 1) := by decide +kernel
theorem dX7_acceptsBehind_13 : decode cX7_acceptsBehind 13 = .ok (.iload_n 1, 1) := by decide +kernel
theorem dX7_acceptsBehind_14 : decode cX7_acceptsBehind 14 = .ok (.bipush 33, 2) := by decide +kernel
theorem dX7_acceptsBehind_16 : decode cX7_acceptsBehind 16 = .ok (.if_icmp .ne 11, 3) := by decide +kernel
theorem dX7_acceptsBehind_19 : decode cX7_acceptsBehind 19 = .ok (.aload_n 0, 1) := by decide +kernel
theorem dX7_acceptsBehind_20 : decode cX7_acceptsBehind 20 = .ok (.getfield 19, 3) := by decide +kernel
theorem dX7_acceptsBehind_23 : decode cX7_acceptsBehind 23 = .ok (.iconst 5, 1) := by decide +kernel
theorem dX7_acceptsBehind_24 : decode cX7_acceptsBehind 24 = .ok (.if_icmp .ne 5, 3) := by decide +kernel
theorem dX7_acceptsBehind_27 : decode cX7_acceptsBehind 27 = .ok (.iconst 0, 1) := by decide +kernel
theorem dX7_acceptsBehind_28 : decode cX7_acceptsBehind 28 = .ok (.ireturn, 1) := by decide +kernel
theorem dX7_acceptsBehind_29 : decode cX7_acceptsBehind 29 = .ok (.aload_n 0, 1) := by decide +kernel
theorem dX7_acceptsBehind_30 : decode cX7_acceptsBehind 30 = .ok (.getfield 37, 3) := by decide +kernel
theorem dX7_acceptsBehind_33 : decode cX7_acceptsBehind 33 = .ok (.aload_n 0, 1) := by decide +kernel
theorem dX7_acceptsBehind_34 : decode cX7_acceptsBehind 34 = .ok (.getfield 22, 3) := by decide +kernel
theorem dX7_acceptsBehind_37 : decode cX7_acceptsBehind 37 = .ok (.bipush 6, 2) := by decide +kernel
theorem dX7_acceptsBehind_39 : decode cX7_acceptsBehind 39 = .ok (.imul, 1) := by decide +kernel
theorem dX7_acceptsBehind_40 : decode cX7_acceptsBehind 40 = .ok (.aload_n 0, 1) := by decide +kernel
theorem dX7_acceptsBehind_41 : decode cX7_acceptsBehind 41 = .ok (.getfield 25, 3) := by decide +kernel
theorem dX7_acceptsBehind_44 : decode cX7_acceptsBehind 44 = .ok (.iadd, 1) := by decide +kernel
theorem dX7_acceptsBehind_45 : decode cX7_acceptsBehind 45 = .ok (.iconst 1, 1) := by decide +kernel
theorem dX7_acceptsBehind_46 : decode cX7_acceptsBehind 46 = .ok (.bastore, 1) := by decide +kernel
theorem dX7_acceptsBehind_47 : decode cX7_acceptsBehind 47 = .ok (.aload_n 0, 1) := by decide +kernel
theorem dX7_acceptsBehind_48 : decode cX7_acceptsBehind 48 = .ok (.getfield 37, 3) := by decide +kernel
theorem dX7_acceptsBehind_51 : decode cX7_acceptsBehind 51 = .ok (.aload_n 0, 1) := by decide +kernel
theorem dX7_acceptsBehind_52 : decode cX7_acceptsBehind 52 = .ok (.getfield 25, 3) := by decide +kernel
theorem dX7_acceptsBehind_55 : decode cX7_acceptsBehind 55 = .ok (.bipush 6, 2) := by decide +kernel
theorem dX7_acceptsBehind_57 : decode cX7_acceptsBehind 57 = .ok (.imul, 1) := by decide +kernel
theorem dX7_acceptsBehind_58 : decode cX7_acceptsBehind 58 = .ok (.aload_n 0, 1) := by decide +kernel
theorem dX7_acceptsBehind_59 : decode cX7_acceptsBehind 59 = .ok (.getfield 22, 3) := by decide +kernel
theorem dX7_acceptsBehind_62 : decode cX7_acceptsBehind 62 = .ok (.iadd, 1) := by decide +kernel
theorem dX7_acceptsBehind_63 : decode cX7_acceptsBehind 63 = .ok (.iconst 1, 1) := by decide +kernel
theorem dX7_acceptsBehind_64 : decode cX7_acceptsBehind 64 = .ok (.bastore, 1) := by decide +kernel
theorem dX7_acceptsBehind_65 : decode cX7_acceptsBehind 65 = .ok (.aload_n 0, 1) := by decide +kernel
theorem dX7_acceptsBehind_66 : decode cX7_acceptsBehind 66 = .ok (.iconst 5, 1) := by decide +kernel
theorem dX7_acceptsBehind_67 : decode cX7_acceptsBehind 67 = .ok (.putfield 19, 3) := by decide +kernel
theorem dX7_acceptsBehind_70 : decode cX7_acceptsBehind 70 = .ok (.iconst 1, 1) := by decide +kernel
theorem dX7_acceptsBehind_71 : decode cX7_acceptsBehind 71 = .ok (.ireturn, 1) := by decide +kernel
theorem dX7_tellTo_0 : decode cX7_tellTo 0 = .ok (.aload_n 1, 1) := by decide +kernel
theorem dX7_tellTo_1 : decode cX7_tellTo 1 = .ok (.invokevirtual 64, 3) := by decide +kernel
theorem dX7_tellTo_4 : decode cX7_tellTo 4 = .ok (.iconst 0, 1) := by decide +kernel
theorem dX7_tellTo_5 : decode cX7_tellTo 5 = .ok (.istore_n 2, 1) := by decide +kernel
theorem dX7_tellTo_6 : decode cX7_tellTo 6 = .ok (.iload_n 2, 1) := by decide +kernel
theorem dX7_tellTo_7 : decode cX7_tellTo 7 = .ok (.bipush 6, 2) := by decide +kernel
theorem dX7_tellTo_9 : decode cX7_tellTo 9 = .ok (.if_icmp .ge 76, 3) := by decide +kernel
theorem dX7_tellTo_12 : decode cX7_tellTo 12 = .ok (.iload_n 2, 1) := by decide +kernel
theorem dX7_tellTo_13 : decode cX7_tellTo 13 = .ok (.iconst 1, 1) := by decide +kernel
theorem dX7_tellTo_14 : decode cX7_tellTo 14 = .ok (.iadd, 1) := by decide +kernel
theorem dX7_tellTo_15 : decode cX7_tellTo 15 = .ok (.istore_n 3, 1) := by decide +kernel
theorem dX7_tellTo_16 : decode cX7_tellTo 16 = .ok (.iload_n 3, 1) := by decide +kernel
theorem dX7_tellTo_17 : decode cX7_tellTo 17 = .ok (.bipush 6, 2) := by decide +kernel
theorem dX7_tellTo_19 : decode cX7_tellTo 19 = .ok (.if_icmp .ge 60, 3) := by decide +kernel
theorem dX7_tellTo_22 : decode cX7_tellTo 22 = .ok (.aload_n 0, 1) := by decide +kernel
theorem dX7_tellTo_23 : decode cX7_tellTo 23 = .ok (.getfield 34, 3) := by decide +kernel
theorem dX7_tellTo_26 : decode cX7_tellTo 26 = .ok (.iload_n 2, 1) := by decide +kernel
theorem dX7_tellTo_27 : decode cX7_tellTo 27 = .ok (.bipush 6, 2) := by decide +kernel
theorem dX7_tellTo_29 : decode cX7_tellTo 29 = .ok (.imul, 1) := by decide +kernel
theorem dX7_tellTo_30 : decode cX7_tellTo 30 = .ok (.iload_n 3, 1) := by decide +kernel
theorem dX7_tellTo_31 : decode cX7_tellTo 31 = .ok (.iadd, 1) := by decide +kernel
theorem dX7_tellTo_32 : decode cX7_tellTo 32 = .ok (.iaload, 1) := by decide +kernel
theorem dX7_tellTo_33 : decode cX7_tellTo 33 = .ok (.ifCond .eq 40, 3) := by decide +kernel
theorem dX7_tellTo_36 : decode cX7_tellTo 36 = .ok (.aload_n 1, 1) := by decide +kernel
theorem dX7_tellTo_37 : decode cX7_tellTo 37 = .ok (.iload_n 2, 1) := by decide +kernel
theorem dX7_tellTo_38 : decode cX7_tellTo 38 = .ok (.iload_n 3, 1) := by decide +kernel
theorem dX7_tellTo_39 : decode cX7_tellTo 39 = .ok (.aload_n 0, 1) := by decide +kernel
theorem dX7_tellTo_40 : decode cX7_tellTo 40 = .ok (.getfield 34, 3) := by decide +kernel
theorem dX7_tellTo_43 : decode cX7_tellTo 43 = .ok (.iload_n 2, 1) := by decide +kernel
theorem dX7_tellTo_44 : decode cX7_tellTo 44 = .ok (.bipush 6, 2) := by decide +kernel
theorem dX7_tellTo_46 : decode cX7_tellTo 46 = .ok (.imul, 1) := by decide +kernel
theorem dX7_tellTo_47 : decode cX7_tellTo 47 = .ok (.iload_n 3, 1) := by decide +kernel
theorem dX7_tellTo_48 : decode cX7_tellTo 48 = .ok (.iadd, 1) := by decide +kernel
theorem dX7_tellTo_49 : decode cX7_tellTo 49 = .ok (.iaload, 1) := by decide +kernel
theorem dX7_tellTo_50 : decode cX7_tellTo 50 = .ok (.invokevirtual 69, 3) := by decide +kernel
theorem dX7_tellTo_53 : decode cX7_tellTo 53 = .ok (.aload_n 0, 1) := by decide +kernel
theorem dX7_tellTo_54 : decode cX7_tellTo 54 = .ok (.getfield 37, 3) := by decide +kernel
theorem dX7_tellTo_57 : decode cX7_tellTo 57 = .ok (.iload_n 2, 1) := by decide +kernel
theorem dX7_tellTo_58 : decode cX7_tellTo 58 = .ok (.bipush 6, 2) := by decide +kernel
theorem dX7_tellTo_60 : decode cX7_tellTo 60 = .ok (.imul, 1) := by decide +kernel
theorem dX7_tellTo_61 : decode cX7_tellTo 61 = .ok (.iload_n 3, 1) := by decide +kernel
theorem dX7_tellTo_62 : decode cX7_tellTo 62 = .ok (.iadd, 1) := by decide +kernel
theorem dX7_tellTo_63 : decode cX7_tellTo 63 = .ok (.baload, 1) := by decide +kernel
theorem dX7_tellTo_64 : decode cX7_tellTo 64 = .ok (.ifCond .eq 9, 3) := by decide +kernel
theorem dX7_tellTo_67 : decode cX7_tellTo 67 = .ok (.aload_n 1, 1) := by decide +kernel
theorem dX7_tellTo_68 : decode cX7_tellTo 68 = .ok (.iload_n 2, 1) := by decide +kernel
theorem dX7_tellTo_69 : decode cX7_tellTo 69 = .ok (.iload_n 3, 1) := by decide +kernel
theorem dX7_tellTo_70 : decode cX7_tellTo 70 = .ok (.invokevirtual 73, 3) := by decide +kernel
theorem dX7_tellTo_73 : decode cX7_tellTo 73 = .ok (.iinc 3 1, 3) := by decide +kernel
theorem dX7_tellTo_76 : decode cX7_tellTo 76 = .ok (.goto (-60), 3) := by decide +kernel
theorem dX7_tellTo_79 : decode cX7_tellTo 79 = .ok (.iinc 2 1, 3) := by decide +kernel
theorem dX7_tellTo_82 : decode cX7_tellTo 82 = .ok (.goto (-76), 3) := by decide +kernel
theorem dX7_tellTo_85 : decode cX7_tellTo 85 = .ok (.return_, 1) := by decide +kernel
theorem dX8_init_0 : decode cX8_init 0 = .ok (.aload_n 0, 1) := by decide +kernel
theorem dX8_init_1 : decode cX8_init 1 = .ok (.invokespecial 5, 3) := by decide +kernel
theorem dX8_init_4 : decode cX8_init 4 = .ok (.aload_n 0, 1) := by decide +kernel
theorem dX8_init_5 : decode cX8_init 5 = .ok (.bipush 121, 2) := by decide +kernel
theorem dX8_init_7 : decode cX8_init 7 = .ok (.newarray .int, 2) := by decide +kernel
theorem dX8_init_9 : decode cX8_init 9 = .ok (.putfield 13, 3) := by decide +kernel
theorem dX8_init_12 : decode cX8_init 12 = .ok (.aload_n 0, 1) := by decide +kernel
theorem dX8_init_13 : decode cX8_init 13 = .ok (.iconst 0, 1) := by decide +kernel
theorem dX8_init_14 : decode cX8_init 14 = .ok (.putfield 17, 3) := by decide +kernel
theorem dX8_init_17 : decode cX8_init 17 = .ok (.aload_n 0, 1) := by decide +kernel
theorem dX8_init_18 : decode cX8_init 18 = .ok (.iconst 0, 1) := by decide +kernel
theorem dX8_init_19 : decode cX8_init 19 = .ok (.putfield 21, 3) := by decide +kernel
theorem dX8_init_22 : decode cX8_init 22 = .ok (.aload_n 0, 1) := by decide +kernel
theorem dX8_init_23 : decode cX8_init 23 = .ok (.sipush 326, 3) := by decide +kernel
theorem dX8_init_26 : decode cX8_init 26 = .ok (.newarray .int, 2) := by decide +kernel
theorem dX8_init_28 : decode cX8_init 28 = .ok (.putfield 24, 3) := by decide +kernel
theorem dX8_init_31 : decode cX8_init 31 = .ok (.aload_n 0, 1) := by decide +kernel
theorem dX8_init_32 : decode cX8_init 32 = .ok (.sipush 326, 3) := by decide +kernel
theorem dX8_init_35 : decode cX8_init 35 = .ok (.newarray .int, 2) := by decide +kernel
theorem dX8_init_37 : decode cX8_init 37 = .ok (.putfield 27, 3) := by decide +kernel
theorem dX8_init_40 : decode cX8_init 40 = .ok (.aload_n 0, 1) := by decide +kernel
theorem dX8_init_41 : decode cX8_init 41 = .ok (.sipush 326, 3) := by decide +kernel
theorem dX8_init_44 : decode cX8_init 44 = .ok (.newarray .int, 2) := by decide +kernel
theorem dX8_init_46 : decode cX8_init 46 = .ok (.putfield 30, 3) := by decide +kernel
theorem dX8_init_49 : decode cX8_init 49 = .ok (.aload_n 0, 1) := by decide +kernel
theorem dX8_init_50 : decode cX8_init 50 = .ok (.sipush 326, 3) := by decide +kernel
theorem dX8_init_53 : decode cX8_init 53 = .ok (.newarray .int, 2) := by decide +kernel
theorem dX8_init_55 : decode cX8_init 55 = .ok (.putfield 33, 3) := by decide +kernel
theorem dX8_init_58 : decode cX8_init 58 = .ok (.aload_n 0, 1) := by decide +kernel
theorem dX8_init_59 : decode cX8_init 59 = .ok (.sipush 326, 3) := by decide +kernel
theorem dX8_init_62 : decode cX8_init 62 = .ok (.newarray .int, 2) := by decide +kernel
theorem dX8_init_64 : decode cX8_init 64 = .ok (.putfield 36, 3) := by decide +kernel
theorem dX8_init_67 : decode cX8_init 67 = .ok (.aload_n 0, 1) := by decide +kernel
theorem dX8_init_68 : decode cX8_init 68 = .ok (.sipush 326, 3) := by decide +kernel
theorem dX8_init_71 : decode cX8_init 71 = .ok (.newarray .int, 2) := by decide +kernel
theorem dX8_init_73 : decode cX8_init 73 = .ok (.putfield 39, 3) := by decide +kernel
theorem dX8_init_76 : decode cX8_init 76 = .ok (.aload_n 0, 1) := by decide +kernel
theorem dX8_init_77 : decode cX8_init 77 = .ok (.bipush 6, 2) := by decide +kernel
theorem dX8_init_79 : decode cX8_init 79 = .ok (.newarray .int, 2) := by decide +kernel
theorem dX8_init_81 : decode cX8_init 81 = .ok (.putfield 42, 3) := by decide +kernel
theorem dX8_init_84 : decode cX8_init 84 = .ok (.aload_n 0, 1) := by decide +kernel
theorem dX8_init_85 : decode cX8_init 85 = .ok (.sipush 390, 3) := by decide +kernel
theorem dX8_init_88 : decode cX8_init 88 = .ok (.newarray .int, 2) := by decide +kernel
theorem dX8_init_90 : decode cX8_init 90 = .ok (.putfield 45, 3) := by decide +kernel
theorem dX8_init_93 : decode cX8_init 93 = .ok (.return_, 1) := by decide +kernel
theorem dX8_version_0 : decode cX8_version 0 = .ok (.aload_n 0, 1) := by decide +kernel
theorem dX8_version_1 : decode cX8_version 1 = .ok (.getfield 17, 3) := by decide +kernel
theorem dX8_version_4 : decode cX8_version 4 = .ok (.ireturn, 1) := by decide +kernel
theorem dX8_countAll_0 : decode cX8_countAll 0 = .ok (.aload_n 0, 1) := by decide +kernel
theorem dX8_countAll_1 : decode cX8_countAll 1 = .ok (.getfield 21, 3) := by decide +kernel
theorem dX8_countAll_4 : decode cX8_countAll 4 = .ok (.ireturn, 1) := by decide +kernel
theorem dX8_countOf_0 : decode cX8_countOf 0 = .ok (.aload_n 0, 1) := by decide +kernel
theorem dX8_countOf_1 : decode cX8_countOf 1 = .ok (.getfield 42, 3) := by decide +kernel
theorem dX8_countOf_4 : decode cX8_countOf 4 = .ok (.iload_n 1, 1) := by decide +kernel
theorem dX8_countOf_5 : decode cX8_countOf 5 = .ok (.iaload, 1) := by decide +kernel
theorem dX8_countOf_6 : decode cX8_countOf 6 = .ok (.ireturn, 1) := by decide +kernel
theorem dX8_ownerOf_0 : decode cX8_ownerOf 0 = .ok (.aload_n 0, 1) := by decide +kernel
theorem dX8_ownerOf_1 : decode cX8_ownerOf 1 = .ok (.getfield 24, 3) := by decide +kernel
theorem dX8_ownerOf_4 : decode cX8_ownerOf 4 = .ok (.iload_n 1, 1) := by decide +kernel
theorem dX8_ownerOf_5 : decode cX8_ownerOf 5 = .ok (.iaload, 1) := by decide +kernel
theorem dX8_ownerOf_6 : decode cX8_ownerOf 6 = .ok (.ireturn, 1) := by decide +kernel
theorem dX8_tailOf_0 : decode cX8_tailOf 0 = .ok (.aload_n 0, 1) := by decide +kernel
theorem dX8_tailOf_1 : decode cX8_tailOf 1 = .ok (.getfield 27, 3) := by decide +kernel
theorem dX8_tailOf_4 : decode cX8_tailOf 4 = .ok (.iload_n 1, 1) := by decide +kernel
theorem dX8_tailOf_5 : decode cX8_tailOf 5 = .ok (.iaload, 1) := by decide +kernel
theorem dX8_tailOf_6 : decode cX8_tailOf 6 = .ok (.ireturn, 1) := by decide +kernel
theorem dX8_placeOf_0 : decode cX8_placeOf 0 = .ok (.aload_n 0, 1) := by decide +kernel
theorem dX8_placeOf_1 : decode cX8_placeOf 1 = .ok (.getfield 39, 3) := by decide +kernel
theorem dX8_placeOf_4 : decode cX8_placeOf 4 = .ok (.iload_n 1, 1) := by decide +kernel
theorem dX8_placeOf_5 : decode cX8_placeOf 5 = .ok (.iaload, 1) := by decide +kernel
theorem dX8_placeOf_6 : decode cX8_placeOf 6 = .ok (.ireturn, 1) := by decide +kernel
theorem dX8_membersOf_0 : decode cX8_membersOf 0 = .ok (.aload_n 0, 1) := by decide +kernel
theorem dX8_membersOf_1 : decode cX8_membersOf 1 = .ok (.getfield 33, 3) := by decide +kernel
theorem dX8_membersOf_4 : decode cX8_membersOf 4 = .ok (.iload_n 1, 1) := by decide +kernel
theorem dX8_membersOf_5 : decode cX8_membersOf 5 = .ok (.iaload, 1) := by decide +kernel
theorem dX8_membersOf_6 : decode cX8_membersOf 6 = .ok (.ireturn, 1) := by decide +kernel
theorem dX8_numberOf_0 : decode cX8_numberOf 0 = .ok (.aload_n 0, 1) := by decide +kernel
theorem dX8_numberOf_1 : decode cX8_numberOf 1 = .ok (.getfield 30, 3) := by decide +kernel
theorem dX8_numberOf_4 : decode cX8_numberOf 4 = .ok (.iload_n 1, 1) := by decide +kernel
theorem dX8_numberOf_5 : decode cX8_numberOf 5 = .ok (.iaload, 1) := by decide +kernel
theorem dX8_numberOf_6 : decode cX8_numberOf 6 = .ok (.ldc 48, 2) := by decide +kernel
theorem dX8_numberOf_8 : decode cX8_numberOf 8 = .ok (.irem, 1) := by decide +kernel
theorem dX8_numberOf_9 : decode cX8_numberOf 9 = .ok (.ireturn, 1) := by decide +kernel
theorem dX8_rankedAt_0 : decode cX8_rankedAt 0 = .ok (.aload_n 0, 1) := by decide +kernel
theorem dX8_rankedAt_1 : decode cX8_rankedAt 1 = .ok (.getfield 45, 3) := by decide +kernel
theorem dX8_rankedAt_4 : decode cX8_rankedAt 4 = .ok (.iload_n 1, 1) := by decide +kernel
theorem dX8_rankedAt_5 : decode cX8_rankedAt 5 = .ok (.bipush 65, 2) := by decide +kernel
theorem dX8_rankedAt_7 : decode cX8_rankedAt 7 = .ok (.imul, 1) := by decide +kernel
theorem dX8_rankedAt_8 : decode cX8_rankedAt 8 = .ok (.iload_n 2, 1) := by decide +kernel
theorem dX8_rankedAt_9 : decode cX8_rankedAt 9 = .ok (.iadd, 1) := by decide +kernel
theorem dX8_rankedAt_10 : decode cX8_rankedAt 10 = .ok (.iaload, 1) := by decide +kernel
theorem dX8_rankedAt_11 : decode cX8_rankedAt 11 = .ok (.ireturn, 1) := by decide +kernel
theorem dX8_secondOf_0 : decode cX8_secondOf 0 = .ok (.iload_n 1, 1) := by decide +kernel
theorem dX8_secondOf_1 : decode cX8_secondOf 1 = .ok (.ifCond .ne 8, 3) := by decide +kernel
theorem dX8_secondOf_4 : decode cX8_secondOf 4 = .ok (.bipush 9, 2) := by decide +kernel
theorem dX8_secondOf_6 : decode cX8_secondOf 6 = .ok (.goto 14, 3) := by decide +kernel
theorem dX8_secondOf_9 : decode cX8_secondOf 9 = .ok (.aload_n 0, 1) := by decide +kernel
theorem dX8_secondOf_10 : decode cX8_secondOf 10 = .ok (.getfield 24, 3) := by decide +kernel
theorem dX8_secondOf_13 : decode cX8_secondOf 13 = .ok (.aload_n 0, 1) := by decide +kernel
theorem dX8_secondOf_14 : decode cX8_secondOf 14 = .ok (.getfield 27, 3) := by decide +kernel
theorem dX8_secondOf_17 : decode cX8_secondOf 17 = .ok (.iload_n 1, 1) := by decide +kernel
theorem dX8_secondOf_18 : decode cX8_secondOf 18 = .ok (.iaload, 1) := by decide +kernel
theorem dX8_secondOf_19 : decode cX8_secondOf 19 = .ok (.iaload, 1) := by decide +kernel
theorem dX8_secondOf_20 : decode cX8_secondOf 20 = .ok (.ireturn, 1) := by decide +kernel
theorem dX8_isBriefer_0 : decode cX8_isBriefer 0 = .ok (.aload_n 0, 1) := by decide +kernel
theorem dX8_isBriefer_1 : decode cX8_isBriefer 1 = .ok (.getfield 30, 3) := by decide +kernel
theorem dX8_isBriefer_4 : decode cX8_isBriefer 4 = .ok (.iload_n 1, 1) := by decide +kernel
theorem dX8_isBriefer_5 : decode cX8_isBriefer 5 = .ok (.iaload, 1) := by decide +kernel
theorem dX8_isBriefer_6 : decode cX8_isBriefer 6 = .ok (.ldc 49, 2) := by decide +kernel
theorem dX8_isBriefer_8 : decode cX8_isBriefer 8 = .ok (.irem, 1) := by decide +kernel
theorem dX8_isBriefer_9 : decode cX8_isBriefer 9 = .ok (.aload_n 0, 1) := by decide +kernel
theorem dX8_isBriefer_10 : decode cX8_isBriefer 10 = .ok (.getfield 30, 3) := by decide +kernel
theorem dX8_isBriefer_13 : decode cX8_isBriefer 13 = .ok (.iload_n 2, 1) := by decide +kernel
theorem dX8_isBriefer_14 : decode cX8_isBriefer 14 = .ok (.iaload, 1) := by decide +kernel
theorem dX8_isBriefer_15 : decode cX8_isBriefer 15 = .ok (.ldc 49, 2) := by decide +kernel
theorem dX8_isBriefer_17 : decode cX8_isBriefer 17 = .ok (.irem, 1) := by decide +kernel
theorem dX8_isBriefer_18 : decode cX8_isBriefer 18 = .ok (.if_icmp .ge 7, 3) := by decide +kernel
theorem dX8_isBriefer_21 : decode cX8_isBriefer 21 = .ok (.iconst 1, 1) := by decide +kernel
theorem dX8_isBriefer_22 : decode cX8_isBriefer 22 = .ok (.goto 4, 3) := by decide +kernel
theorem dX8_isBriefer_25 : decode cX8_isBriefer 25 = .ok (.iconst 0, 1) := by decide +kernel
theorem dX8_isBriefer_26 : decode cX8_isBriefer 26 = .ok (.ireturn, 1) := by decide +kernel
theorem dX8_numberAt_0 : decode cX8_numberAt 0 = .ok (.iload_n 2, 1) := by decide +kernel
theorem dX8_numberAt_1 : decode cX8_numberAt 1 = .ok (.aload_n 0, 1) := by decide +kernel
theorem dX8_numberAt_2 : decode cX8_numberAt 2 = .ok (.getfield 42, 3) := by decide +kernel
theorem dX8_numberAt_5 : decode cX8_numberAt 5 = .ok (.iload_n 1, 1) := by decide +kernel
theorem dX8_numberAt_6 : decode cX8_numberAt 6 = .ok (.iaload, 1) := by decide +kernel
theorem dX8_numberAt_7 : decode cX8_numberAt 7 = .ok (.if_icmp .ge 16, 3) := by decide +kernel
theorem dX8_numberAt_10 : decode cX8_numberAt 10 = .ok (.aload_n 0, 1) := by decide +kernel
theorem dX8_numberAt_11 : decode cX8_numberAt 11 = .ok (.aload_n 0, 1) := by decide +kernel
theorem dX8_numberAt_12 : decode cX8_numberAt 12 = .ok (.iload_n 1, 1) := by decide +kernel
theorem dX8_numberAt_13 : decode cX8_numberAt 13 = .ok (.iload_n 2, 1) := by decide +kernel
theorem dX8_numberAt_14 : decode cX8_numberAt 14 = .ok (.invokevirtual 50, 3) := by decide +kernel
theorem dX8_numberAt_17 : decode cX8_numberAt 17 = .ok (.invokevirtual 54, 3) := by decide +kernel
theorem dX8_numberAt_20 : decode cX8_numberAt 20 = .ok (.goto 5, 3) := by decide +kernel
theorem dX8_numberAt_23 : decode cX8_numberAt 23 = .ok (.bipush (-4), 2) := by decide +kernel
theorem dX8_numberAt_25 : decode cX8_numberAt 25 = .ok (.ireturn, 1) := by decide +kernel
theorem dX8_freshen_0 : decode cX8_freshen 0 = .ok (.aload_n 0, 1) := by decide +kernel
theorem dX8_freshen_1 : decode cX8_freshen 1 = .ok (.getfield 17, 3) := by decide +kernel
theorem dX8_freshen_4 : decode cX8_freshen 4 = .ok (.ifCond .le 12, 3) := by decide +kernel
theorem dX8_freshen_7 : decode cX8_freshen 7 = .ok (.aload_n 0, 1) := by decide +kernel
theorem dX8_freshen_8 : decode cX8_freshen 8 = .ok (.aload_n 1, 1) := by decide +kernel
theorem dX8_freshen_9 : decode cX8_freshen 9 = .ok (.invokevirtual 58, 3) := by decide +kernel
theorem dX8_freshen_12 : decode cX8_freshen 12 = .ok (.ifCond .eq 4, 3) := by decide +kernel
theorem dX8_freshen_15 : decode cX8_freshen 15 = .ok (.return_, 1) := by decide +kernel
theorem dX8_freshen_16 : decode cX8_freshen 16 = .ok (.aload_n 1, 1) := by decide +kernel
theorem dX8_freshen_17 : decode cX8_freshen 17 = .ok (.getfield 62, 3) := by decide +kernel
theorem dX8_freshen_20 : decode cX8_freshen 20 = .ok (.iconst 0, 1) := by decide +kernel
theorem dX8_freshen_21 : decode cX8_freshen 21 = .ok (.aload_n 0, 1) := by decide +kernel
theorem dX8_freshen_22 : decode cX8_freshen 22 = .ok (.getfield 13, 3) := by decide +kernel
theorem dX8_freshen_25 : decode cX8_freshen 25 = .ok (.iconst 0, 1) := by decide +kernel
theorem dX8_freshen_26 : decode cX8_freshen 26 = .ok (.bipush 121, 2) := by decide +kernel
theorem dX8_freshen_28 : decode cX8_freshen 28 = .ok (.invokestatic 65, 3) := by decide +kernel
theorem dX8_freshen_31 : decode cX8_freshen 31 = .ok (.aload_n 0, 1) := by decide +kernel
theorem dX8_freshen_32 : decode cX8_freshen 32 = .ok (.dup, 1) := by decide +kernel
theorem dX8_freshen_33 : decode cX8_freshen 33 = .ok (.getfield 17, 3) := by decide +kernel
theorem dX8_freshen_36 : decode cX8_freshen 36 = .ok (.iconst 1, 1) := by decide +kernel
theorem dX8_freshen_37 : decode cX8_freshen 37 = .ok (.iadd, 1) := by decide +kernel
theorem dX8_freshen_38 : decode cX8_freshen 38 = .ok (.putfield 17, 3) := by decide +kernel
theorem dX8_freshen_41 : decode cX8_freshen 41 = .ok (.aload_n 0, 1) := by decide +kernel
theorem dX8_freshen_42 : decode cX8_freshen 42 = .ok (.iconst 0, 1) := by decide +kernel
theorem dX8_freshen_43 : decode cX8_freshen 43 = .ok (.putfield 21, 3) := by decide +kernel
theorem dX8_freshen_46 : decode cX8_freshen 46 = .ok (.aload_n 0, 1) := by decide +kernel
theorem dX8_freshen_47 : decode cX8_freshen 47 = .ok (.getfield 42, 3) := by decide +kernel
theorem dX8_freshen_50 : decode cX8_freshen 50 = .ok (.iconst 0, 1) := by decide +kernel
theorem dX8_freshen_51 : decode cX8_freshen 51 = .ok (.invokestatic 71, 3) := by decide +kernel
theorem dX8_freshen_54 : decode cX8_freshen 54 = .ok (.aload_n 0, 1) := by decide +kernel
theorem dX8_freshen_55 : decode cX8_freshen 55 = .ok (.iconst 0, 1) := by decide +kernel
theorem dX8_freshen_56 : decode cX8_freshen 56 = .ok (.iconst (-1), 1) := by decide +kernel
theorem dX8_freshen_57 : decode cX8_freshen 57 = .ok (.iconst 0, 1) := by decide +kernel
theorem dX8_freshen_58 : decode cX8_freshen 58 = .ok (.invokevirtual 77, 3) := by decide +kernel
theorem dX8_freshen_61 : decode cX8_freshen 61 = .ok (.iconst 0, 1) := by decide +kernel
theorem dX8_freshen_62 : decode cX8_freshen 62 = .ok (.istore_n 2, 1) := by decide +kernel
theorem dX8_freshen_63 : decode cX8_freshen 63 = .ok (.iload_n 2, 1) := by decide +kernel
theorem dX8_freshen_64 : decode cX8_freshen 64 = .ok (.aload_n 0, 1) := by decide +kernel
theorem dX8_freshen_65 : decode cX8_freshen 65 = .ok (.getfield 21, 3) := by decide +kernel
theorem dX8_freshen_68 : decode cX8_freshen 68 = .ok (.if_icmp .ge 22, 3) := by decide +kernel
theorem dX8_freshen_71 : decode cX8_freshen 71 = .ok (.iload_n 2, 1) := by decide +kernel
theorem dX8_freshen_72 : decode cX8_freshen 72 = .ok (.sipush 326, 3) := by decide +kernel
theorem dX8_freshen_75 : decode cX8_freshen 75 = .ok (.if_icmp .ge 15, 3) := by decide +kernel
theorem dX8_freshen_78 : decode cX8_freshen 78 = .ok (.aload_n 0, 1) := by decide +kernel
theorem dX8_freshen_79 : decode cX8_freshen 79 = .ok (.aload_n 1, 1) := by decide +kernel
theorem dX8_freshen_80 : decode cX8_freshen 80 = .ok (.iload_n 2, 1) := by decide +kernel
theorem dX8_freshen_81 : decode cX8_freshen 81 = .ok (.invokevirtual 81, 3) := by decide +kernel
theorem dX8_freshen_84 : decode cX8_freshen 84 = .ok (.iinc 2 1, 3) := by decide +kernel
theorem dX8_freshen_87 : decode cX8_freshen 87 = .ok (.goto (-24), 3) := by decide +kernel
theorem dX8_freshen_90 : decode cX8_freshen 90 = .ok (.aload_n 0, 1) := by decide +kernel
theorem dX8_freshen_91 : decode cX8_freshen 91 = .ok (.invokevirtual 85, 3) := by decide +kernel
theorem dX8_freshen_94 : decode cX8_freshen 94 = .ok (.return_, 1) := by decide +kernel
theorem dX8_isBasis_0 : decode cX8_isBasis 0 = .ok (.iconst 0, 1) := by decide +kernel
theorem dX8_isBasis_1 : decode cX8_isBasis 1 = .ok (.istore_n 2, 1) := by decide +kernel
theorem dX8_isBasis_2 : decode cX8_isBasis 2 = .ok (.iload_n 2, 1) := by decide +kernel
theorem dX8_isBasis_3 : decode cX8_isBasis 3 = .ok (.bipush 121, 2) := by decide +kernel
theorem dX8_isBasis_5 : decode cX8_isBasis 5 = .ok (.if_icmp .ge 26, 3) := by decide +kernel
theorem dX8_isBasis_8 : decode cX8_isBasis 8 = .ok (.aload_n 0, 1) := by decide +kernel
theorem dX8_isBasis_9 : decode cX8_isBasis 9 = .ok (.getfield 13, 3) := by decide +kernel
theorem dX8_isBasis_12 : decode cX8_isBasis 12 = .ok (.iload_n 2, 1) := by decide +kernel
theorem dX8_isBasis_13 : decode cX8_isBasis 13 = .ok (.iaload, 1) := by decide +kernel
theorem dX8_isBasis_14 : decode cX8_isBasis 14 = .ok (.aload_n 1, 1) := by decide +kernel
theorem dX8_isBasis_15 : decode cX8_isBasis 15 = .ok (.getfield 62, 3) := by decide +kernel
theorem dX8_isBasis_18 : decode cX8_isBasis 18 = .ok (.iload_n 2, 1) := by decide +kernel
theorem dX8_isBasis_19 : decode cX8_isBasis 19 = .ok (.iaload, 1) := by decide +kernel
theorem dX8_isBasis_20 : decode cX8_isBasis 20 = .ok (.if_icmp .eq 5, 3) := by decide +kernel
theorem dX8_isBasis_23 : decode cX8_isBasis 23 = .ok (.iconst 0, 1) := by decide +kernel
theorem dX8_isBasis_24 : decode cX8_isBasis 24 = .ok (.ireturn, 1) := by decide +kernel
theorem dX8_isBasis_25 : decode cX8_isBasis 25 = .ok (.iinc 2 1, 3) := by decide +kernel
theorem dX8_isBasis_28 : decode cX8_isBasis 28 = .ok (.goto (-26), 3) := by decide +kernel
theorem dX8_isBasis_31 : decode cX8_isBasis 31 = .ok (.iconst 1, 1) := by decide +kernel
theorem dX8_isBasis_32 : decode cX8_isBasis 32 = .ok (.ireturn, 1) := by decide +kernel
theorem dX8_extend_0 : decode cX8_extend 0 = .ok (.aload_n 0, 1) := by decide +kernel
theorem dX8_extend_1 : decode cX8_extend 1 = .ok (.getfield 24, 3) := by decide +kernel
theorem dX8_extend_4 : decode cX8_extend 4 = .ok (.iload_n 2, 1) := by decide +kernel
theorem dX8_extend_5 : decode cX8_extend 5 = .ok (.iaload, 1) := by decide +kernel
theorem dX8_extend_6 : decode cX8_extend 6 = .ok (.istore_n 3, 1) := by decide +kernel
theorem dX8_extend_7 : decode cX8_extend 7 = .ok (.aload_n 0, 1) := by decide +kernel
theorem dX8_extend_8 : decode cX8_extend 8 = .ok (.iload_n 2, 1) := by decide +kernel
theorem dX8_extend_9 : decode cX8_extend 9 = .ok (.invokevirtual 88, 3) := by decide +kernel
theorem dX8_extend_12 : decode cX8_extend 12 = .ok (.istore 4, 2) := by decide +kernel
theorem dX8_extend_14 : decode cX8_extend 14 = .ok (.aload_n 0, 1) := by decide +kernel
theorem dX8_extend_15 : decode cX8_extend 15 = .ok (.getfield 30, 3) := by decide +kernel
theorem dX8_extend_18 : decode cX8_extend 18 = .ok (.iload_n 2, 1) := by decide +kernel
theorem dX8_extend_19 : decode cX8_extend 19 = .ok (.iaload, 1) := by decide +kernel
theorem dX8_extend_20 : decode cX8_extend 20 = .ok (.ldc 49, 2) := by decide +kernel
theorem dX8_extend_22 : decode cX8_extend 22 = .ok (.irem, 1) := by decide +kernel
theorem dX8_extend_23 : decode cX8_extend 23 = .ok (.ldc 48, 2) := by decide +kernel
theorem dX8_extend_25 : decode cX8_extend 25 = .ok (.idiv, 1) := by decide +kernel
theorem dX8_extend_26 : decode cX8_extend 26 = .ok (.iconst 1, 1) := by decide +kernel
theorem dX8_extend_27 : decode cX8_extend 27 = .ok (.iadd, 1) := by decide +kernel
theorem dX8_extend_28 : decode cX8_extend 28 = .ok (.istore 5, 2) := by decide +kernel
theorem dX8_extend_30 : decode cX8_extend 30 = .ok (.iconst 1, 1) := by decide +kernel
theorem dX8_extend_31 : decode cX8_extend 31 = .ok (.istore 6, 2) := by decide +kernel
theorem dX8_extend_33 : decode cX8_extend 33 = .ok (.iload 6, 2) := by decide +kernel
theorem dX8_extend_35 : decode cX8_extend 35 = .ok (.aload_n 1, 1) := by decide +kernel
theorem dX8_extend_36 : decode cX8_extend 36 = .ok (.invokevirtual 91, 3) := by decide +kernel
theorem dX8_extend_39 : decode cX8_extend 39 = .ok (.if_icmp .ge 63, 3) := by decide +kernel
theorem dX8_extend_42 : decode cX8_extend 42 = .ok (.aload_n 1, 1) := by decide +kernel
theorem dX8_extend_43 : decode cX8_extend 43 = .ok (.iload 6, 2) := by decide +kernel
theorem dX8_extend_45 : decode cX8_extend 45 = .ok (.iload_n 3, 1) := by decide +kernel
theorem dX8_extend_46 : decode cX8_extend 46 = .ok (.aload_n 0, 1) := by decide +kernel
theorem dX8_extend_47 : decode cX8_extend 47 = .ok (.getfield 33, 3) := by decide +kernel
theorem dX8_extend_50 : decode cX8_extend 50 = .ok (.iload_n 2, 1) := by decide +kernel
theorem dX8_extend_51 : decode cX8_extend 51 = .ok (.iaload, 1) := by decide +kernel
theorem dX8_extend_52 : decode cX8_extend 52 = .ok (.iload 4, 2) := by decide +kernel
theorem dX8_extend_54 : decode cX8_extend 54 = .ok (.invokevirtual 95, 3) := by decide +kernel
theorem dX8_extend_57 : decode cX8_extend 57 = .ok (.ifCond .eq 39, 3) := by decide +kernel
theorem dX8_extend_60 : decode cX8_extend 60 = .ok (.iload 6, 2) := by decide +kernel
theorem dX8_extend_62 : decode cX8_extend 62 = .ok (.iload 5, 2) := by decide +kernel
theorem dX8_extend_64 : decode cX8_extend 64 = .ok (.iconst 1, 1) := by decide +kernel
theorem dX8_extend_65 : decode cX8_extend 65 = .ok (.isub, 1) := by decide +kernel
theorem dX8_extend_66 : decode cX8_extend 66 = .ok (.invokestatic 99, 3) := by decide +kernel
theorem dX8_extend_69 : decode cX8_extend 69 = .ok (.imul, 1) := by decide +kernel
theorem dX8_extend_70 : decode cX8_extend 70 = .ok (.aload_n 0, 1) := by decide +kernel
theorem dX8_extend_71 : decode cX8_extend 71 = .ok (.iload_n 2, 1) := by decide +kernel
theorem dX8_extend_72 : decode cX8_extend 72 = .ok (.invokevirtual 54, 3) := by decide +kernel
theorem dX8_extend_75 : decode cX8_extend 75 = .ok (.iadd, 1) := by decide +kernel
theorem dX8_extend_76 : decode cX8_extend 76 = .ok (.istore 7, 2) := by decide +kernel
theorem dX8_extend_78 : decode cX8_extend 78 = .ok (.aload_n 0, 1) := by decide +kernel
theorem dX8_extend_79 : decode cX8_extend 79 = .ok (.iload 6, 2) := by decide +kernel
theorem dX8_extend_81 : decode cX8_extend 81 = .ok (.iload_n 2, 1) := by decide +kernel
theorem dX8_extend_82 : decode cX8_extend 82 = .ok (.aload_n 1, 1) := by decide +kernel
theorem dX8_extend_83 : decode cX8_extend 83 = .ok (.iload 6, 2) := by decide +kernel
theorem dX8_extend_85 : decode cX8_extend 85 = .ok (.iload_n 3, 1) := by decide +kernel
theorem dX8_extend_86 : decode cX8_extend 86 = .ok (.iload 5, 2) := by decide +kernel
theorem dX8_extend_88 : decode cX8_extend 88 = .ok (.iload 7, 2) := by decide +kernel
theorem dX8_extend_90 : decode cX8_extend 90 = .ok (.invokevirtual 102, 3) := by decide +kernel
theorem dX8_extend_93 : decode cX8_extend 93 = .ok (.invokevirtual 77, 3) := by decide +kernel
theorem dX8_extend_96 : decode cX8_extend 96 = .ok (.iinc 6 1, 3) := by decide +kernel
theorem dX8_extend_99 : decode cX8_extend 99 = .ok (.goto (-66), 3) := by decide +kernel
theorem dX8_extend_102 : decode cX8_extend 102 = .ok (.return_, 1) := by decide +kernel
theorem dX8_unitAbove_0 : decode cX8_unitAbove 0 = .ok (.iconst 1, 1) := by decide +kernel
theorem dX8_unitAbove_1 : decode cX8_unitAbove 1 = .ok (.istore_n 1, 1) := by decide +kernel
theorem dX8_unitAbove_2 : decode cX8_unitAbove 2 = .ok (.iconst 0, 1) := by decide +kernel
theorem dX8_unitAbove_3 : decode cX8_unitAbove 3 = .ok (.istore_n 2, 1) := by decide +kernel
theorem dX8_unitAbove_4 : decode cX8_unitAbove 4 = .ok (.iload_n 2, 1) := by decide +kernel
theorem dX8_unitAbove_5 : decode cX8_unitAbove 5 = .ok (.iload_n 0, 1) := by decide +kernel
theorem dX8_unitAbove_6 : decode cX8_unitAbove 6 = .ok (.if_icmp .ge 14, 3) := by decide +kernel
theorem dX8_unitAbove_9 : decode cX8_unitAbove 9 = .ok (.iload_n 1, 1) := by decide +kernel
theorem dX8_unitAbove_10 : decode cX8_unitAbove 10 = .ok (.bipush 10, 2) := by decide +kernel
theorem dX8_unitAbove_12 : decode cX8_unitAbove 12 = .ok (.imul, 1) := by decide +kernel
theorem dX8_unitAbove_13 : decode cX8_unitAbove 13 = .ok (.istore_n 1, 1) := by decide +kernel
theorem dX8_unitAbove_14 : decode cX8_unitAbove 14 = .ok (.iinc 2 1, 3) := by decide +kernel
theorem dX8_unitAbove_17 : decode cX8_unitAbove 17 = .ok (.goto (-13), 3) := by decide +kernel
theorem dX8_unitAbove_20 : decode cX8_unitAbove 20 = .ok (.iload_n 1, 1) := by decide +kernel
theorem dX8_unitAbove_21 : decode cX8_unitAbove 21 = .ok (.ireturn, 1) := by decide +kernel
theorem dX8_add_0 : decode cX8_add 0 = .ok (.aload_n 0, 1) := by decide +kernel
theorem dX8_add_1 : decode cX8_add 1 = .ok (.getfield 21, 3) := by decide +kernel
theorem dX8_add_4 : decode cX8_add 4 = .ok (.sipush 326, 3) := by decide +kernel
theorem dX8_add_7 : decode cX8_add 7 = .ok (.if_icmp .ge 14, 3) := by decide +kernel
theorem dX8_add_10 : decode cX8_add 10 = .ok (.aload_n 0, 1) := by decide +kernel
theorem dX8_add_11 : decode cX8_add 11 = .ok (.getfield 42, 3) := by decide +kernel
theorem dX8_add_14 : decode cX8_add 14 = .ok (.iload_n 1, 1) := by decide +kernel
theorem dX8_add_15 : decode cX8_add 15 = .ok (.iaload, 1) := by decide +kernel
theorem dX8_add_16 : decode cX8_add 16 = .ok (.bipush 65, 2) := by decide +kernel
theorem dX8_add_18 : decode cX8_add 18 = .ok (.if_icmp .lt 4, 3) := by decide +kernel
theorem dX8_add_21 : decode cX8_add 21 = .ok (.return_, 1) := by decide +kernel
theorem dX8_add_22 : decode cX8_add 22 = .ok (.aload_n 0, 1) := by decide +kernel
theorem dX8_add_23 : decode cX8_add 23 = .ok (.getfield 24, 3) := by decide +kernel
theorem dX8_add_26 : decode cX8_add 26 = .ok (.aload_n 0, 1) := by decide +kernel
theorem dX8_add_27 : decode cX8_add 27 = .ok (.getfield 21, 3) := by decide +kernel
theorem dX8_add_30 : decode cX8_add 30 = .ok (.iload_n 1, 1) := by decide +kernel
theorem dX8_add_31 : decode cX8_add 31 = .ok (.iastore, 1) := by decide +kernel
theorem dX8_add_32 : decode cX8_add 32 = .ok (.aload_n 0, 1) := by decide +kernel
theorem dX8_add_33 : decode cX8_add 33 = .ok (.getfield 27, 3) := by decide +kernel
theorem dX8_add_36 : decode cX8_add 36 = .ok (.aload_n 0, 1) := by decide +kernel
theorem dX8_add_37 : decode cX8_add 37 = .ok (.getfield 21, 3) := by decide +kernel
theorem dX8_add_40 : decode cX8_add 40 = .ok (.iload_n 2, 1) := by decide +kernel
theorem dX8_add_41 : decode cX8_add 41 = .ok (.iastore, 1) := by decide +kernel
theorem dX8_add_42 : decode cX8_add 42 = .ok (.aload_n 0, 1) := by decide +kernel
theorem dX8_add_43 : decode cX8_add 43 = .ok (.getfield 30, 3) := by decide +kernel
theorem dX8_add_46 : decode cX8_add 46 = .ok (.aload_n 0, 1) := by decide +kernel
theorem dX8_add_47 : decode cX8_add 47 = .ok (.getfield 21, 3) := by decide +kernel
theorem dX8_add_50 : decode cX8_add 50 = .ok (.iload_n 2, 1) := by decide +kernel
theorem dX8_add_51 : decode cX8_add 51 = .ok (.ifCond .ge 8, 3) := by decide +kernel
theorem dX8_add_54 : decode cX8_add 54 = .ok (.ldc 48, 2) := by decide +kernel
theorem dX8_add_56 : decode cX8_add 56 = .ok (.goto 4, 3) := by decide +kernel
theorem dX8_add_59 : decode cX8_add 59 = .ok (.iload_n 3, 1) := by decide +kernel
theorem dX8_add_60 : decode cX8_add 60 = .ok (.iastore, 1) := by decide +kernel
theorem dX8_add_61 : decode cX8_add 61 = .ok (.aload_n 0, 1) := by decide +kernel
theorem dX8_add_62 : decode cX8_add 62 = .ok (.getfield 33, 3) := by decide +kernel
theorem dX8_add_65 : decode cX8_add 65 = .ok (.aload_n 0, 1) := by decide +kernel
theorem dX8_add_66 : decode cX8_add 66 = .ok (.getfield 21, 3) := by decide +kernel
theorem dX8_add_69 : decode cX8_add 69 = .ok (.iconst 1, 1) := by decide +kernel
theorem dX8_add_70 : decode cX8_add 70 = .ok (.iload_n 1, 1) := by decide +kernel
theorem dX8_add_71 : decode cX8_add 71 = .ok (.ishl, 1) := by decide +kernel
theorem dX8_add_72 : decode cX8_add 72 = .ok (.iload_n 2, 1) := by decide +kernel
theorem dX8_add_73 : decode cX8_add 73 = .ok (.ifCond .ge 7, 3) := by decide +kernel
theorem dX8_add_76 : decode cX8_add 76 = .ok (.iconst 0, 1) := by decide +kernel
theorem dX8_add_77 : decode cX8_add 77 = .ok (.goto 9, 3) := by decide +kernel
theorem dX8_add_80 : decode cX8_add 80 = .ok (.aload_n 0, 1) := by decide +kernel
theorem dX8_add_81 : decode cX8_add 81 = .ok (.getfield 33, 3) := by decide +kernel
theorem dX8_add_84 : decode cX8_add 84 = .ok (.iload_n 2, 1) := by decide +kernel
theorem dX8_add_85 : decode cX8_add 85 = .ok (.iaload, 1) := by decide +kernel
theorem dX8_add_86 : decode cX8_add 86 = .ok (.ior, 1) := by decide +kernel
theorem dX8_add_87 : decode cX8_add 87 = .ok (.iastore, 1) := by decide +kernel
theorem dX8_add_88 : decode cX8_add 88 = .ok (.aload_n 0, 1) := by decide +kernel
theorem dX8_add_89 : decode cX8_add 89 = .ok (.getfield 36, 3) := by decide +kernel
theorem dX8_add_92 : decode cX8_add 92 = .ok (.aload_n 0, 1) := by decide +kernel
theorem dX8_add_93 : decode cX8_add 93 = .ok (.getfield 21, 3) := by decide +kernel
theorem dX8_add_96 : decode cX8_add 96 = .ok (.iload_n 2, 1) := by decide +kernel
theorem dX8_add_97 : decode cX8_add 97 = .ok (.ifCond .ge 7, 3) := by decide +kernel
theorem dX8_add_100 : decode cX8_add 100 = .ok (.iconst 0, 1) := by decide +kernel
theorem dX8_add_101 : decode cX8_add 101 = .ok (.goto 22, 3) := by decide +kernel
theorem dX8_add_104 : decode cX8_add 104 = .ok (.aload_n 0, 1) := by decide +kernel
theorem dX8_add_105 : decode cX8_add 105 = .ok (.getfield 36, 3) := by decide +kernel
theorem dX8_add_108 : decode cX8_add 108 = .ok (.iload_n 2, 1) := by decide +kernel
theorem dX8_add_109 : decode cX8_add 109 = .ok (.iaload, 1) := by decide +kernel
theorem dX8_add_110 : decode cX8_add 110 = .ok (.iconst 1, 1) := by decide +kernel
theorem dX8_add_111 : decode cX8_add 111 = .ok (.iload_n 1, 1) := by decide +kernel
theorem dX8_add_112 : decode cX8_add 112 = .ok (.aload_n 0, 1) := by decide +kernel
theorem dX8_add_113 : decode cX8_add 113 = .ok (.getfield 24, 3) := by decide +kernel
theorem dX8_add_116 : decode cX8_add 116 = .ok (.iload_n 2, 1) := by decide +kernel
theorem dX8_add_117 : decode cX8_add 117 = .ok (.iaload, 1) := by decide +kernel
theorem dX8_add_118 : decode cX8_add 118 = .ok (.invokestatic 106, 3) := by decide +kernel
theorem dX8_add_121 : decode cX8_add 121 = .ok (.ishl, 1) := by decide +kernel
theorem dX8_add_122 : decode cX8_add 122 = .ok (.ior, 1) := by decide +kernel
theorem dX8_add_123 : decode cX8_add 123 = .ok (.iastore, 1) := by decide +kernel
theorem dX8_add_124 : decode cX8_add 124 = .ok (.aload_n 0, 1) := by decide +kernel
theorem dX8_add_125 : decode cX8_add 125 = .ok (.iload_n 1, 1) := by decide +kernel
theorem dX8_add_126 : decode cX8_add 126 = .ok (.aload_n 0, 1) := by decide +kernel
theorem dX8_add_127 : decode cX8_add 127 = .ok (.getfield 21, 3) := by decide +kernel
theorem dX8_add_130 : decode cX8_add 130 = .ok (.invokevirtual 109, 3) := by decide +kernel
theorem dX8_add_133 : decode cX8_add 133 = .ok (.aload_n 0, 1) := by decide +kernel
theorem dX8_add_134 : decode cX8_add 134 = .ok (.dup, 1) := by decide +kernel
theorem dX8_add_135 : decode cX8_add 135 = .ok (.getfield 21, 3) := by decide +kernel
theorem dX8_add_138 : decode cX8_add 138 = .ok (.iconst 1, 1) := by decide +kernel
theorem dX8_add_139 : decode cX8_add 139 = .ok (.iadd, 1) := by decide +kernel
theorem dX8_add_140 : decode cX8_add 140 = .ok (.putfield 21, 3) := by decide +kernel
theorem dX8_add_143 : decode cX8_add 143 = .ok (.return_, 1) := by decide +kernel
theorem dX8_insert_0 : decode cX8_insert 0 = .ok (.iload_n 1, 1) := by decide +kernel
theorem dX8_insert_1 : decode cX8_insert 1 = .ok (.bipush 65, 2) := by decide +kernel
theorem dX8_insert_3 : decode cX8_insert 3 = .ok (.imul, 1) := by decide +kernel
theorem dX8_insert_4 : decode cX8_insert 4 = .ok (.aload_n 0, 1) := by decide +kernel
theorem dX8_insert_5 : decode cX8_insert 5 = .ok (.getfield 42, 3) := by decide +kernel
theorem dX8_insert_8 : decode cX8_insert 8 = .ok (.iload_n 1, 1) := by decide +kernel
theorem dX8_insert_9 : decode cX8_insert 9 = .ok (.iaload, 1) := by decide +kernel
theorem dX8_insert_10 : decode cX8_insert 10 = .ok (.iadd, 1) := by decide +kernel
theorem dX8_insert_11 : decode cX8_insert 11 = .ok (.istore_n 3, 1) := by decide +kernel
theorem dX8_insert_12 : decode cX8_insert 12 = .ok (.iload_n 3, 1) := by decide +kernel
theorem dX8_insert_13 : decode cX8_insert 13 = .ok (.iload_n 1, 1) := by decide +kernel
theorem dX8_insert_14 : decode cX8_insert 14 = .ok (.bipush 65, 2) := by decide +kernel
theorem dX8_insert_16 : decode cX8_insert 16 = .ok (.imul, 1) := by decide +kernel
theorem dX8_insert_17 : decode cX8_insert 17 = .ok (.if_icmp .le 45, 3) := by decide +kernel
theorem dX8_insert_20 : decode cX8_insert 20 = .ok (.aload_n 0, 1) := by decide +kernel
theorem dX8_insert_21 : decode cX8_insert 21 = .ok (.getfield 30, 3) := by decide +kernel
theorem dX8_insert_24 : decode cX8_insert 24 = .ok (.aload_n 0, 1) := by decide +kernel
theorem dX8_insert_25 : decode cX8_insert 25 = .ok (.getfield 45, 3) := by decide +kernel
theorem dX8_insert_28 : decode cX8_insert 28 = .ok (.iload_n 3, 1) := by decide +kernel
theorem dX8_insert_29 : decode cX8_insert 29 = .ok (.iconst 1, 1) := by decide +kernel
theorem dX8_insert_30 : decode cX8_insert 30 = .ok (.isub, 1) := by decide +kernel
theorem dX8_insert_31 : decode cX8_insert 31 = .ok (.iaload, 1) := by decide +kernel
theorem dX8_insert_32 : decode cX8_insert 32 = .ok (.iaload, 1) := by decide +kernel
theorem dX8_insert_33 : decode cX8_insert 33 = .ok (.aload_n 0, 1) := by decide +kernel
theorem dX8_insert_34 : decode cX8_insert 34 = .ok (.getfield 30, 3) := by decide +kernel
theorem dX8_insert_37 : decode cX8_insert 37 = .ok (.iload_n 2, 1) := by decide +kernel
theorem dX8_insert_38 : decode cX8_insert 38 = .ok (.iaload, 1) := by decide +kernel
theorem dX8_insert_39 : decode cX8_insert 39 = .ok (.if_icmp .le 23, 3) := by decide +kernel
theorem dX8_insert_42 : decode cX8_insert 42 = .ok (.aload_n 0, 1) := by decide +kernel
theorem dX8_insert_43 : decode cX8_insert 43 = .ok (.getfield 45, 3) := by decide +kernel
theorem dX8_insert_46 : decode cX8_insert 46 = .ok (.iload_n 3, 1) := by decide +kernel
theorem dX8_insert_47 : decode cX8_insert 47 = .ok (.aload_n 0, 1) := by decide +kernel
theorem dX8_insert_48 : decode cX8_insert 48 = .ok (.getfield 45, 3) := by decide +kernel
theorem dX8_insert_51 : decode cX8_insert 51 = .ok (.iload_n 3, 1) := by decide +kernel
theorem dX8_insert_52 : decode cX8_insert 52 = .ok (.iconst 1, 1) := by decide +kernel
theorem dX8_insert_53 : decode cX8_insert 53 = .ok (.isub, 1) := by decide +kernel
theorem dX8_insert_54 : decode cX8_insert 54 = .ok (.iaload, 1) := by decide +kernel
theorem dX8_insert_55 : decode cX8_insert 55 = .ok (.iastore, 1) := by decide +kernel
theorem dX8_insert_56 : decode cX8_insert 56 = .ok (.iinc 3 (-1), 3) := by decide +kernel
theorem dX8_insert_59 : decode cX8_insert 59 = .ok (.goto (-47), 3) := by decide +kernel
theorem dX8_insert_62 : decode cX8_insert 62 = .ok (.aload_n 0, 1) := by decide +kernel
theorem dX8_insert_63 : decode cX8_insert 63 = .ok (.getfield 45, 3) := by decide +kernel
theorem dX8_insert_66 : decode cX8_insert 66 = .ok (.iload_n 3, 1) := by decide +kernel
theorem dX8_insert_67 : decode cX8_insert 67 = .ok (.iload_n 2, 1) := by decide +kernel
theorem dX8_insert_68 : decode cX8_insert 68 = .ok (.iastore, 1) := by decide +kernel
theorem dX8_insert_69 : decode cX8_insert 69 = .ok (.aload_n 0, 1) := by decide +kernel
theorem dX8_insert_70 : decode cX8_insert 70 = .ok (.getfield 42, 3) := by decide +kernel
theorem dX8_insert_73 : decode cX8_insert 73 = .ok (.iload_n 1, 1) := by decide +kernel
theorem dX8_insert_74 : decode cX8_insert 74 = .ok (.dup2, 1) := by decide +kernel
theorem dX8_insert_75 : decode cX8_insert 75 = .ok (.iaload, 1) := by decide +kernel
theorem dX8_insert_76 : decode cX8_insert 76 = .ok (.iconst 1, 1) := by decide +kernel
theorem dX8_insert_77 : decode cX8_insert 77 = .ok (.iadd, 1) := by decide +kernel
theorem dX8_insert_78 : decode cX8_insert 78 = .ok (.iastore, 1) := by decide +kernel
theorem dX8_insert_79 : decode cX8_insert 79 = .ok (.return_, 1) := by decide +kernel
theorem dX8_notePlaces_0 : decode cX8_notePlaces 0 = .ok (.iconst 0, 1) := by decide +kernel
theorem dX8_notePlaces_1 : decode cX8_notePlaces 1 = .ok (.istore_n 1, 1) := by decide +kernel
theorem dX8_notePlaces_2 : decode cX8_notePlaces 2 = .ok (.iload_n 1, 1) := by decide +kernel
theorem dX8_notePlaces_3 : decode cX8_notePlaces 3 = .ok (.bipush 6, 2) := by decide +kernel
theorem dX8_notePlaces_5 : decode cX8_notePlaces 5 = .ok (.if_icmp .ge 39, 3) := by decide +kernel
theorem dX8_notePlaces_8 : decode cX8_notePlaces 8 = .ok (.iconst 0, 1) := by decide +kernel
theorem dX8_notePlaces_9 : decode cX8_notePlaces 9 = .ok (.istore_n 2, 1) := by decide +kernel
theorem dX8_notePlaces_10 : decode cX8_notePlaces 10 = .ok (.iload_n 2, 1) := by decide +kernel
theorem dX8_notePlaces_11 : decode cX8_notePlaces 11 = .ok (.aload_n 0, 1) := by decide +kernel
theorem dX8_notePlaces_12 : decode cX8_notePlaces 12 = .ok (.getfield 42, 3) := by decide +kernel
theorem dX8_notePlaces_15 : decode cX8_notePlaces 15 = .ok (.iload_n 1, 1) := by decide +kernel
theorem dX8_notePlaces_16 : decode cX8_notePlaces 16 = .ok (.iaload, 1) := by decide +kernel
theorem dX8_notePlaces_17 : decode cX8_notePlaces 17 = .ok (.if_icmp .ge 21, 3) := by decide +kernel
theorem dX8_notePlaces_20 : decode cX8_notePlaces 20 = .ok (.aload_n 0, 1) := by decide +kernel
theorem dX8_notePlaces_21 : decode cX8_notePlaces 21 = .ok (.getfield 39, 3) := by decide +kernel
theorem dX8_notePlaces_24 : decode cX8_notePlaces 24 = .ok (.aload_n 0, 1) := by decide +kernel
theorem dX8_notePlaces_25 : decode cX8_notePlaces 25 = .ok (.iload_n 1, 1) := by decide +kernel
theorem dX8_notePlaces_26 : decode cX8_notePlaces 26 = .ok (.iload_n 2, 1) := by decide +kernel
theorem dX8_notePlaces_27 : decode cX8_notePlaces 27 = .ok (.invokevirtual 50, 3) := by decide +kernel
theorem dX8_notePlaces_30 : decode cX8_notePlaces 30 = .ok (.iload_n 2, 1) := by decide +kernel
theorem dX8_notePlaces_31 : decode cX8_notePlaces 31 = .ok (.iastore, 1) := by decide +kernel
theorem dX8_notePlaces_32 : decode cX8_notePlaces 32 = .ok (.iinc 2 1, 3) := by decide +kernel
theorem dX8_notePlaces_35 : decode cX8_notePlaces 35 = .ok (.goto (-25), 3) := by decide +kernel
theorem dX8_notePlaces_38 : decode cX8_notePlaces 38 = .ok (.iinc 1 1, 3) := by decide +kernel
theorem dX8_notePlaces_41 : decode cX8_notePlaces 41 = .ok (.goto (-39), 3) := by decide +kernel
theorem dX8_notePlaces_44 : decode cX8_notePlaces 44 = .ok (.return_, 1) := by decide +kernel
theorem dX8_pairOf_0 : decode cX8_pairOf 0 = .ok (.iload_n 0, 1) := by decide +kernel
theorem dX8_pairOf_1 : decode cX8_pairOf 1 = .ok (.iload_n 1, 1) := by decide +kernel
theorem dX8_pairOf_2 : decode cX8_pairOf 2 = .ok (.invokestatic 113, 3) := by decide +kernel
theorem dX8_pairOf_5 : decode cX8_pairOf 5 = .ok (.istore_n 2, 1) := by decide +kernel
theorem dX8_pairOf_6 : decode cX8_pairOf 6 = .ok (.iload_n 2, 1) := by decide +kernel
theorem dX8_pairOf_7 : decode cX8_pairOf 7 = .ok (.iload_n 2, 1) := by decide +kernel
theorem dX8_pairOf_8 : decode cX8_pairOf 8 = .ok (.iconst 1, 1) := by decide +kernel
theorem dX8_pairOf_9 : decode cX8_pairOf 9 = .ok (.isub, 1) := by decide +kernel
theorem dX8_pairOf_10 : decode cX8_pairOf 10 = .ok (.imul, 1) := by decide +kernel
theorem dX8_pairOf_11 : decode cX8_pairOf 11 = .ok (.iconst 2, 1) := by decide +kernel
theorem dX8_pairOf_12 : decode cX8_pairOf 12 = .ok (.idiv, 1) := by decide +kernel
theorem dX8_pairOf_13 : decode cX8_pairOf 13 = .ok (.iload_n 0, 1) := by decide +kernel
theorem dX8_pairOf_14 : decode cX8_pairOf 14 = .ok (.iload_n 1, 1) := by decide +kernel
theorem dX8_pairOf_15 : decode cX8_pairOf 15 = .ok (.invokestatic 118, 3) := by decide +kernel
theorem dX8_pairOf_18 : decode cX8_pairOf 18 = .ok (.iadd, 1) := by decide +kernel
theorem dX8_pairOf_19 : decode cX8_pairOf 19 = .ok (.ireturn, 1) := by decide +kernel
theorem dX8_linkInDoubt_0 : decode cX8_linkInDoubt 0 = .ok (.iconst (-1), 1) := by decide +kernel
theorem dX8_linkInDoubt_1 : decode cX8_linkInDoubt 1 = .ok (.istore 4, 2) := by decide +kernel
theorem dX8_linkInDoubt_3 : decode cX8_linkInDoubt 3 = .ok (.iconst 0, 1) := by decide +kernel
theorem dX8_linkInDoubt_4 : decode cX8_linkInDoubt 4 = .ok (.istore 5, 2) := by decide +kernel
theorem dX8_linkInDoubt_6 : decode cX8_linkInDoubt 6 = .ok (.iload 5, 2) := by decide +kernel
theorem dX8_linkInDoubt_8 : decode cX8_linkInDoubt 8 = .ok (.aload_n 0, 1) := by decide +kernel
theorem dX8_linkInDoubt_9 : decode cX8_linkInDoubt 9 = .ok (.getfield 42, 3) := by decide +kernel
theorem dX8_linkInDoubt_12 : decode cX8_linkInDoubt 12 = .ok (.iload_n 1, 1) := by decide +kernel
theorem dX8_linkInDoubt_13 : decode cX8_linkInDoubt 13 = .ok (.iaload, 1) := by decide +kernel
theorem dX8_linkInDoubt_14 : decode cX8_linkInDoubt 14 = .ok (.if_icmp .ge 67, 3) := by decide +kernel
theorem dX8_linkInDoubt_17 : decode cX8_linkInDoubt 17 = .ok (.aload_n 0, 1) := by decide +kernel
theorem dX8_linkInDoubt_18 : decode cX8_linkInDoubt 18 = .ok (.getfield 36, 3) := by decide +kernel
theorem dX8_linkInDoubt_21 : decode cX8_linkInDoubt 21 = .ok (.aload_n 0, 1) := by decide +kernel
theorem dX8_linkInDoubt_22 : decode cX8_linkInDoubt 22 = .ok (.iload_n 1, 1) := by decide +kernel
theorem dX8_linkInDoubt_23 : decode cX8_linkInDoubt 23 = .ok (.iload 5, 2) := by decide +kernel
theorem dX8_linkInDoubt_25 : decode cX8_linkInDoubt 25 = .ok (.invokevirtual 50, 3) := by decide +kernel
theorem dX8_linkInDoubt_28 : decode cX8_linkInDoubt 28 = .ok (.iaload, 1) := by decide +kernel
theorem dX8_linkInDoubt_29 : decode cX8_linkInDoubt 29 = .ok (.istore 6, 2) := by decide +kernel
theorem dX8_linkInDoubt_31 : decode cX8_linkInDoubt 31 = .ok (.iload 6, 2) := by decide +kernel
theorem dX8_linkInDoubt_33 : decode cX8_linkInDoubt 33 = .ok (.iload_n 2, 1) := by decide +kernel
theorem dX8_linkInDoubt_34 : decode cX8_linkInDoubt 34 = .ok (.iconst (-1), 1) := by decide +kernel
theorem dX8_linkInDoubt_35 : decode cX8_linkInDoubt 35 = .ok (.ixor, 1) := by decide +kernel
theorem dX8_linkInDoubt_36 : decode cX8_linkInDoubt 36 = .ok (.iand, 1) := by decide +kernel
theorem dX8_linkInDoubt_37 : decode cX8_linkInDoubt 37 = .ok (.istore 7, 2) := by decide +kernel
theorem dX8_linkInDoubt_39 : decode cX8_linkInDoubt 39 = .ok (.iload 6, 2) := by decide +kernel
theorem dX8_linkInDoubt_41 : decode cX8_linkInDoubt 41 = .ok (.iload_n 3, 1) := by decide +kernel
theorem dX8_linkInDoubt_42 : decode cX8_linkInDoubt 42 = .ok (.iand, 1) := by decide +kernel
theorem dX8_linkInDoubt_43 : decode cX8_linkInDoubt 43 = .ok (.ifCond .ne 25, 3) := by decide +kernel
theorem dX8_linkInDoubt_46 : decode cX8_linkInDoubt 46 = .ok (.iload 4, 2) := by decide +kernel
theorem dX8_linkInDoubt_48 : decode cX8_linkInDoubt 48 = .ok (.ifCond .lt 16, 3) := by decide +kernel
theorem dX8_linkInDoubt_51 : decode cX8_linkInDoubt 51 = .ok (.iload 7, 2) := by decide +kernel
theorem dX8_linkInDoubt_53 : decode cX8_linkInDoubt 53 = .ok (.invokestatic 121, 3) := by decide +kernel
theorem dX8_linkInDoubt_56 : decode cX8_linkInDoubt 56 = .ok (.iload 4, 2) := by decide +kernel
theorem dX8_linkInDoubt_58 : decode cX8_linkInDoubt 58 = .ok (.invokestatic 121, 3) := by decide +kernel
theorem dX8_linkInDoubt_61 : decode cX8_linkInDoubt 61 = .ok (.if_icmp .ge 7, 3) := by decide +kernel
theorem dX8_linkInDoubt_64 : decode cX8_linkInDoubt 64 = .ok (.iload 7, 2) := by decide +kernel
theorem dX8_linkInDoubt_66 : decode cX8_linkInDoubt 66 = .ok (.istore 4, 2) := by decide +kernel
theorem dX8_linkInDoubt_68 : decode cX8_linkInDoubt 68 = .ok (.iload 4, 2) := by decide +kernel
theorem dX8_linkInDoubt_70 : decode cX8_linkInDoubt 70 = .ok (.ifCond .ne 5, 3) := by decide +kernel
theorem dX8_linkInDoubt_73 : decode cX8_linkInDoubt 73 = .ok (.iconst 0, 1) := by decide +kernel
theorem dX8_linkInDoubt_74 : decode cX8_linkInDoubt 74 = .ok (.ireturn, 1) := by decide +kernel
theorem dX8_linkInDoubt_75 : decode cX8_linkInDoubt 75 = .ok (.iinc 5 1, 3) := by decide +kernel
theorem dX8_linkInDoubt_78 : decode cX8_linkInDoubt 78 = .ok (.goto (-72), 3) := by decide +kernel
theorem dX8_linkInDoubt_81 : decode cX8_linkInDoubt 81 = .ok (.iload 4, 2) := by decide +kernel
theorem dX8_linkInDoubt_83 : decode cX8_linkInDoubt 83 = .ok (.ifCond .ge 7, 3) := by decide +kernel
theorem dX8_linkInDoubt_86 : decode cX8_linkInDoubt 86 = .ok (.iconst (-1), 1) := by decide +kernel
theorem dX8_linkInDoubt_87 : decode cX8_linkInDoubt 87 = .ok (.goto 9, 3) := by decide +kernel
theorem dX8_linkInDoubt_90 : decode cX8_linkInDoubt 90 = .ok (.iload 4, 2) := by decide +kernel
theorem dX8_linkInDoubt_92 : decode cX8_linkInDoubt 92 = .ok (.iload 4, 2) := by decide +kernel
theorem dX8_linkInDoubt_94 : decode cX8_linkInDoubt 94 = .ok (.ineg, 1) := by decide +kernel
theorem dX8_linkInDoubt_95 : decode cX8_linkInDoubt 95 = .ok (.iand, 1) := by decide +kernel
theorem dX8_linkInDoubt_96 : decode cX8_linkInDoubt 96 = .ok (.ireturn, 1) := by decide +kernel
theorem dX9_init_0 : decode cX9_init 0 = .ok (.aload_n 0, 1) := by decide +kernel
theorem dX9_init_1 : decode cX9_init 1 = .ok (.invokespecial 3, 3) := by decide +kernel
theorem dX9_init_4 : decode cX9_init 4 = .ok (.aload_n 0, 1) := by decide +kernel
theorem dX9_init_5 : decode cX9_init 5 = .ok (.sipush 128, 3) := by decide +kernel
theorem dX9_init_8 : decode cX9_init 8 = .ok (.newarray .int, 2) := by decide +kernel
theorem dX9_init_10 : decode cX9_init 10 = .ok (.putfield 11, 3) := by decide +kernel
theorem dX9_init_13 : decode cX9_init 13 = .ok (.aload_n 0, 1) := by decide +kernel
theorem dX9_init_14 : decode cX9_init 14 = .ok (.getfield 11, 3) := by decide +kernel
theorem dX9_init_17 : decode cX9_init 17 = .ok (.iconst 0, 1) := by decide +kernel
theorem dX9_init_18 : decode cX9_init 18 = .ok (.iconst 4, 1) := by decide +kernel
theorem dX9_init_19 : decode cX9_init 19 = .ok (.iastore, 1) := by decide +kernel
theorem dX9_init_20 : decode cX9_init 20 = .ok (.aload_n 0, 1) := by decide +kernel
theorem dX9_init_21 : decode cX9_init 21 = .ok (.getfield 11, 3) := by decide +kernel
theorem dX9_init_24 : decode cX9_init 24 = .ok (.bipush 127, 2) := by decide +kernel
theorem dX9_init_26 : decode cX9_init 26 = .ok (.iconst 1, 1) := by decide +kernel
theorem dX9_init_27 : decode cX9_init 27 = .ok (.iastore, 1) := by decide +kernel
theorem dX9_init_28 : decode cX9_init 28 = .ok (.iconst 0, 1) := by decide +kernel
theorem dX9_init_29 : decode cX9_init 29 = .ok (.istore_n 1, 1) := by decide +kernel
theorem dX9_init_30 : decode cX9_init 30 = .ok (.iload_n 1, 1) := by decide +kernel
theorem dX9_init_31 : decode cX9_init 31 = .ok (.bipush 6, 2) := by decide +kernel
theorem dX9_init_33 : decode cX9_init 33 = .ok (.if_icmp .ge 37, 3) := by decide +kernel
theorem dX9_init_36 : decode cX9_init 36 = .ok (.aload_n 0, 1) := by decide +kernel
theorem dX9_init_37 : decode cX9_init 37 = .ok (.getfield 11, 3) := by decide +kernel
theorem dX9_init_40 : decode cX9_init 40 = .ok (.iconst 1, 1) := by decide +kernel
theorem dX9_init_41 : decode cX9_init 41 = .ok (.iload_n 1, 1) := by decide +kernel
theorem dX9_init_42 : decode cX9_init 42 = .ok (.iadd, 1) := by decide +kernel
theorem dX9_init_43 : decode cX9_init 43 = .ok (.iconst 3, 1) := by decide +kernel
theorem dX9_init_44 : decode cX9_init 44 = .ok (.iastore, 1) := by decide +kernel
theorem dX9_init_45 : decode cX9_init 45 = .ok (.aload_n 0, 1) := by decide +kernel
theorem dX9_init_46 : decode cX9_init 46 = .ok (.getfield 11, 3) := by decide +kernel
theorem dX9_init_49 : decode cX9_init 49 = .ok (.bipush 121, 2) := by decide +kernel
theorem dX9_init_51 : decode cX9_init 51 = .ok (.iload_n 1, 1) := by decide +kernel
theorem dX9_init_52 : decode cX9_init 52 = .ok (.iadd, 1) := by decide +kernel
theorem dX9_init_53 : decode cX9_init 53 = .ok (.iload_n 1, 1) := by decide +kernel
theorem dX9_init_54 : decode cX9_init 54 = .ok (.ifCond .ne 7, 3) := by decide +kernel
theorem dX9_init_57 : decode cX9_init 57 = .ok (.iconst 0, 1) := by decide +kernel
theorem dX9_init_58 : decode cX9_init 58 = .ok (.goto 5, 3) := by decide +kernel
theorem dX9_init_61 : decode cX9_init 61 = .ok (.bipush (-4), 2) := by decide +kernel
theorem dX9_init_63 : decode cX9_init 63 = .ok (.iastore, 1) := by decide +kernel
theorem dX9_init_64 : decode cX9_init 64 = .ok (.iinc 1 1, 3) := by decide +kernel
theorem dX9_init_67 : decode cX9_init 67 = .ok (.goto (-37), 3) := by decide +kernel
theorem dX9_init_70 : decode cX9_init 70 = .ok (.return_, 1) := by decide +kernel
theorem dX9_become_0 : decode cX9_become 0 = .ok (.aload_n 1, 1) := by decide +kernel
theorem dX9_become_1 : decode cX9_become 1 = .ok (.getfield 11, 3) := by decide +kernel
theorem dX9_become_4 : decode cX9_become 4 = .ok (.iconst 0, 1) := by decide +kernel
theorem dX9_become_5 : decode cX9_become 5 = .ok (.aload_n 0, 1) := by decide +kernel
theorem dX9_become_6 : decode cX9_become 6 = .ok (.getfield 11, 3) := by decide +kernel
theorem dX9_become_9 : decode cX9_become 9 = .ok (.iconst 0, 1) := by decide +kernel
theorem dX9_become_10 : decode cX9_become 10 = .ok (.sipush 128, 3) := by decide +kernel
theorem dX9_become_13 : decode cX9_become 13 = .ok (.invokestatic 15, 3) := by decide +kernel
theorem dX9_become_16 : decode cX9_become 16 = .ok (.return_, 1) := by decide +kernel
theorem dX9_size_0 : decode cX9_size 0 = .ok (.aload_n 0, 1) := by decide +kernel
theorem dX9_size_1 : decode cX9_size 1 = .ok (.getfield 11, 3) := by decide +kernel
theorem dX9_size_4 : decode cX9_size 4 = .ok (.iconst 0, 1) := by decide +kernel
theorem dX9_size_5 : decode cX9_size 5 = .ok (.iaload, 1) := by decide +kernel
theorem dX9_size_6 : decode cX9_size 6 = .ok (.ireturn, 1) := by decide +kernel
theorem dX9_isDomain_0 : decode cX9_isDomain 0 = .ok (.iload_n 1, 1) := by decide +kernel
theorem dX9_isDomain_1 : decode cX9_isDomain 1 = .ok (.ifCond .lt 17, 3) := by decide +kernel
theorem dX9_isDomain_4 : decode cX9_isDomain 4 = .ok (.iload_n 1, 1) := by decide +kernel
theorem dX9_isDomain_5 : decode cX9_isDomain 5 = .ok (.aload_n 0, 1) := by decide +kernel
theorem dX9_isDomain_6 : decode cX9_isDomain 6 = .ok (.getfield 11, 3) := by decide +kernel
theorem dX9_isDomain_9 : decode cX9_isDomain 9 = .ok (.iconst 0, 1) := by decide +kernel
theorem dX9_isDomain_10 : decode cX9_isDomain 10 = .ok (.iaload, 1) := by decide +kernel
theorem dX9_isDomain_11 : decode cX9_isDomain 11 = .ok (.if_icmp .ge 7, 3) := by decide +kernel
theorem dX9_isDomain_14 : decode cX9_isDomain 14 = .ok (.iconst 1, 1) := by decide +kernel
theorem dX9_isDomain_15 : decode cX9_isDomain 15 = .ok (.goto 4, 3) := by decide +kernel
theorem dX9_isDomain_18 : decode cX9_isDomain 18 = .ok (.iconst 0, 1) := by decide +kernel
theorem dX9_isDomain_19 : decode cX9_isDomain 19 = .ok (.ireturn, 1) := by decide +kernel
theorem dX9_arePair_0 : decode cX9_arePair 0 = .ok (.aload_n 0, 1) := by decide +kernel
theorem dX9_arePair_1 : decode cX9_arePair 1 = .ok (.iload_n 1, 1) := by decide +kernel
theorem dX9_arePair_2 : decode cX9_arePair 2 = .ok (.invokevirtual 21, 3) := by decide +kernel
theorem dX9_arePair_5 : decode cX9_arePair 5 = .ok (.ifCond .eq 20, 3) := by decide +kernel
theorem dX9_arePair_8 : decode cX9_arePair 8 = .ok (.aload_n 0, 1) := by decide +kernel
theorem dX9_arePair_9 : decode cX9_arePair 9 = .ok (.iload_n 2, 1) := by decide +kernel
theorem dX9_arePair_10 : decode cX9_arePair 10 = .ok (.invokevirtual 21, 3) := by decide +kernel
theorem dX9_arePair_13 : decode cX9_arePair 13 = .ok (.ifCond .eq 12, 3) := by decide +kernel
theorem dX9_arePair_16 : decode cX9_arePair 16 = .ok (.iload_n 1, 1) := by decide +kernel
theorem dX9_arePair_17 : decode cX9_arePair 17 = .ok (.iload_n 2, 1) := by decide +kernel
theorem dX9_arePair_18 : decode cX9_arePair 18 = .ok (.if_icmp .eq 7, 3) := by decide +kernel
theorem dX9_arePair_21 : decode cX9_arePair 21 = .ok (.iconst 1, 1) := by decide +kernel
theorem dX9_arePair_22 : decode cX9_arePair 22 = .ok (.goto 4, 3) := by decide +kernel
theorem dX9_arePair_25 : decode cX9_arePair 25 = .ok (.iconst 0, 1) := by decide +kernel
theorem dX9_arePair_26 : decode cX9_arePair 26 = .ok (.ireturn, 1) := by decide +kernel
theorem dX9_areOthers_0 : decode cX9_areOthers 0 = .ok (.iload_n 2, 1) := by decide +kernel
theorem dX9_areOthers_1 : decode cX9_areOthers 1 = .ok (.ifCond .lt 27, 3) := by decide +kernel
theorem dX9_areOthers_4 : decode cX9_areOthers 4 = .ok (.iload_n 2, 1) := by decide +kernel
theorem dX9_areOthers_5 : decode cX9_areOthers 5 = .ok (.iconst 1, 1) := by decide +kernel
theorem dX9_areOthers_6 : decode cX9_areOthers 6 = .ok (.aload_n 0, 1) := by decide +kernel
theorem dX9_areOthers_7 : decode cX9_areOthers 7 = .ok (.getfield 11, 3) := by decide +kernel
theorem dX9_areOthers_10 : decode cX9_areOthers 10 = .ok (.iconst 0, 1) := by decide +kernel
theorem dX9_areOthers_11 : decode cX9_areOthers 11 = .ok (.iaload, 1) := by decide +kernel
theorem dX9_areOthers_12 : decode cX9_areOthers 12 = .ok (.ishl, 1) := by decide +kernel
theorem dX9_areOthers_13 : decode cX9_areOthers 13 = .ok (.if_icmp .ge 15, 3) := by decide +kernel
theorem dX9_areOthers_16 : decode cX9_areOthers 16 = .ok (.iload_n 2, 1) := by decide +kernel
theorem dX9_areOthers_17 : decode cX9_areOthers 17 = .ok (.iconst 1, 1) := by decide +kernel
theorem dX9_areOthers_18 : decode cX9_areOthers 18 = .ok (.iload_n 1, 1) := by decide +kernel
theorem dX9_areOthers_19 : decode cX9_areOthers 19 = .ok (.ishl, 1) := by decide +kernel
theorem dX9_areOthers_20 : decode cX9_areOthers 20 = .ok (.iand, 1) := by decide +kernel
theorem dX9_areOthers_21 : decode cX9_areOthers 21 = .ok (.ifCond .ne 7, 3) := by decide +kernel
theorem dX9_areOthers_24 : decode cX9_areOthers 24 = .ok (.iconst 1, 1) := by decide +kernel
theorem dX9_areOthers_25 : decode cX9_areOthers 25 = .ok (.goto 4, 3) := by decide +kernel
theorem dX9_areOthers_28 : decode cX9_areOthers 28 = .ok (.iconst 0, 1) := by decide +kernel
theorem dX9_areOthers_29 : decode cX9_areOthers 29 = .ok (.ireturn, 1) := by decide +kernel
theorem dX9_sortOf_0 : decode cX9_sortOf 0 = .ok (.aload_n 0, 1) := by decide +kernel
theorem dX9_sortOf_1 : decode cX9_sortOf 1 = .ok (.getfield 11, 3) := by decide +kernel
theorem dX9_sortOf_4 : decode cX9_sortOf 4 = .ok (.bipush 13, 2) := by decide +kernel
theorem dX9_sortOf_6 : decode cX9_sortOf 6 = .ok (.iload_n 1, 1) := by decide +kernel
theorem dX9_sortOf_7 : decode cX9_sortOf 7 = .ok (.bipush 6, 2) := by decide +kernel
theorem dX9_sortOf_9 : decode cX9_sortOf 9 = .ok (.imul, 1) := by decide +kernel
theorem dX9_sortOf_10 : decode cX9_sortOf 10 = .ok (.iadd, 1) := by decide +kernel
theorem dX9_sortOf_11 : decode cX9_sortOf 11 = .ok (.iload_n 2, 1) := by decide +kernel
theorem dX9_sortOf_12 : decode cX9_sortOf 12 = .ok (.iadd, 1) := by decide +kernel
theorem dX9_sortOf_13 : decode cX9_sortOf 13 = .ok (.iaload, 1) := by decide +kernel
theorem dX9_sortOf_14 : decode cX9_sortOf 14 = .ok (.ireturn, 1) := by decide +kernel
theorem dX9_isCut_0 : decode cX9_isCut 0 = .ok (.aload_n 0, 1) := by decide +kernel
theorem dX9_isCut_1 : decode cX9_isCut 1 = .ok (.getfield 11, 3) := by decide +kernel
theorem dX9_isCut_4 : decode cX9_isCut 4 = .ok (.bipush 49, 2) := by decide +kernel
theorem dX9_isCut_6 : decode cX9_isCut 6 = .ok (.iload_n 1, 1) := by decide +kernel
theorem dX9_isCut_7 : decode cX9_isCut 7 = .ok (.bipush 6, 2) := by decide +kernel
theorem dX9_isCut_9 : decode cX9_isCut 9 = .ok (.imul, 1) := by decide +kernel
theorem dX9_isCut_10 : decode cX9_isCut 10 = .ok (.iadd, 1) := by decide +kernel
theorem dX9_isCut_11 : decode cX9_isCut 11 = .ok (.iload_n 2, 1) := by decide +kernel
theorem dX9_isCut_12 : decode cX9_isCut 12 = .ok (.iadd, 1) := by decide +kernel
theorem dX9_isCut_13 : decode cX9_isCut 13 = .ok (.iaload, 1) := by decide +kernel
theorem dX9_isCut_14 : decode cX9_isCut 14 = .ok (.ifCond .eq 7, 3) := by decide +kernel
theorem dX9_isCut_17 : decode cX9_isCut 17 = .ok (.iconst 1, 1) := by decide +kernel
theorem dX9_isCut_18 : decode cX9_isCut 18 = .ok (.goto 4, 3) := by decide +kernel
theorem dX9_isCut_21 : decode cX9_isCut 21 = .ok (.iconst 0, 1) := by decide +kernel
theorem dX9_isCut_22 : decode cX9_isCut 22 = .ok (.ireturn, 1) := by decide +kernel
theorem dX9_areJoined_0 : decode cX9_areJoined 0 = .ok (.aload_n 0, 1) := by decide +kernel
theorem dX9_areJoined_1 : decode cX9_areJoined 1 = .ok (.iload_n 1, 1) := by decide +kernel
theorem dX9_areJoined_2 : decode cX9_areJoined 2 = .ok (.iload_n 2, 1) := by decide +kernel
theorem dX9_areJoined_3 : decode cX9_areJoined 3 = .ok (.invokevirtual 25, 3) := by decide +kernel
theorem dX9_areJoined_6 : decode cX9_areJoined 6 = .ok (.ifCond .eq 16, 3) := by decide +kernel
theorem dX9_areJoined_9 : decode cX9_areJoined 9 = .ok (.aload_n 0, 1) := by decide +kernel
theorem dX9_areJoined_10 : decode cX9_areJoined 10 = .ok (.iload_n 1, 1) := by decide +kernel
theorem dX9_areJoined_11 : decode cX9_areJoined 11 = .ok (.iload_n 2, 1) := by decide +kernel
theorem dX9_areJoined_12 : decode cX9_areJoined 12 = .ok (.invokevirtual 29, 3) := by decide +kernel
theorem dX9_areJoined_15 : decode cX9_areJoined 15 = .ok (.ifCond .ne 7, 3) := by decide +kernel
theorem dX9_areJoined_18 : decode cX9_areJoined 18 = .ok (.iconst 1, 1) := by decide +kernel
theorem dX9_areJoined_19 : decode cX9_areJoined 19 = .ok (.goto 4, 3) := by decide +kernel
theorem dX9_areJoined_22 : decode cX9_areJoined 22 = .ok (.iconst 0, 1) := by decide +kernel
theorem dX9_areJoined_23 : decode cX9_areJoined 23 = .ok (.ireturn, 1) := by decide +kernel
theorem dX9_setLink_0 : decode cX9_setLink 0 = .ok (.aload_n 0, 1) := by decide +kernel
theorem dX9_setLink_1 : decode cX9_setLink 1 = .ok (.getfield 11, 3) := by decide +kernel
theorem dX9_setLink_4 : decode cX9_setLink 4 = .ok (.bipush 13, 2) := by decide +kernel
theorem dX9_setLink_6 : decode cX9_setLink 6 = .ok (.iload_n 1, 1) := by decide +kernel
theorem dX9_setLink_7 : decode cX9_setLink 7 = .ok (.bipush 6, 2) := by decide +kernel
theorem dX9_setLink_9 : decode cX9_setLink 9 = .ok (.imul, 1) := by decide +kernel
theorem dX9_setLink_10 : decode cX9_setLink 10 = .ok (.iadd, 1) := by decide +kernel
theorem dX9_setLink_11 : decode cX9_setLink 11 = .ok (.iload_n 2, 1) := by decide +kernel
theorem dX9_setLink_12 : decode cX9_setLink 12 = .ok (.iadd, 1) := by decide +kernel
theorem dX9_setLink_13 : decode cX9_setLink 13 = .ok (.iload_n 3, 1) := by decide +kernel
theorem dX9_setLink_14 : decode cX9_setLink 14 = .ok (.iastore, 1) := by decide +kernel
theorem dX9_setLink_15 : decode cX9_setLink 15 = .ok (.aload_n 0, 1) := by decide +kernel
theorem dX9_setLink_16 : decode cX9_setLink 16 = .ok (.getfield 11, 3) := by decide +kernel
theorem dX9_setLink_19 : decode cX9_setLink 19 = .ok (.bipush 13, 2) := by decide +kernel
theorem dX9_setLink_21 : decode cX9_setLink 21 = .ok (.iload_n 2, 1) := by decide +kernel
theorem dX9_setLink_22 : decode cX9_setLink 22 = .ok (.bipush 6, 2) := by decide +kernel
theorem dX9_setLink_24 : decode cX9_setLink 24 = .ok (.imul, 1) := by decide +kernel
theorem dX9_setLink_25 : decode cX9_setLink 25 = .ok (.iadd, 1) := by decide +kernel
theorem dX9_setLink_26 : decode cX9_setLink 26 = .ok (.iload_n 1, 1) := by decide +kernel
theorem dX9_setLink_27 : decode cX9_setLink 27 = .ok (.iadd, 1) := by decide +kernel
theorem dX9_setLink_28 : decode cX9_setLink 28 = .ok (.iload_n 3, 1) := by decide +kernel
theorem dX9_setLink_29 : decode cX9_setLink 29 = .ok (.ifCond .ne 7, 3) := by decide +kernel
theorem dX9_setLink_32 : decode cX9_setLink 32 = .ok (.iconst 0, 1) := by decide +kernel
theorem dX9_setLink_33 : decode cX9_setLink 33 = .ok (.goto 6, 3) := by decide +kernel
theorem dX9_setLink_36 : decode cX9_setLink 36 = .ok (.iconst 4, 1) := by decide +kernel
theorem dX9_setLink_37 : decode cX9_setLink 37 = .ok (.iload_n 3, 1) := by decide +kernel
theorem dX9_setLink_38 : decode cX9_setLink 38 = .ok (.isub, 1) := by decide +kernel
theorem dX9_setLink_39 : decode cX9_setLink 39 = .ok (.iastore, 1) := by decide +kernel
theorem dX9_setLink_40 : decode cX9_setLink 40 = .ok (.aload_n 0, 1) := by decide +kernel
theorem dX9_setLink_41 : decode cX9_setLink 41 = .ok (.iload_n 1, 1) := by decide +kernel
theorem dX9_setLink_42 : decode cX9_setLink 42 = .ok (.iload_n 2, 1) := by decide +kernel
theorem dX9_setLink_43 : decode cX9_setLink 43 = .ok (.iconst 0, 1) := by decide +kernel
theorem dX9_setLink_44 : decode cX9_setLink 44 = .ok (.invokevirtual 33, 3) := by decide +kernel
theorem dX9_setLink_47 : decode cX9_setLink 47 = .ok (.return_, 1) := by decide +kernel
theorem dX9_turnCut_0 : decode cX9_turnCut 0 = .ok (.aload_n 0, 1) := by decide +kernel
theorem dX9_turnCut_1 : decode cX9_turnCut 1 = .ok (.iload_n 1, 1) := by decide +kernel
theorem dX9_turnCut_2 : decode cX9_turnCut 2 = .ok (.iload_n 2, 1) := by decide +kernel
theorem dX9_turnCut_3 : decode cX9_turnCut 3 = .ok (.aload_n 0, 1) := by decide +kernel
theorem dX9_turnCut_4 : decode cX9_turnCut 4 = .ok (.iload_n 1, 1) := by decide +kernel
theorem dX9_turnCut_5 : decode cX9_turnCut 5 = .ok (.iload_n 2, 1) := by decide +kernel
theorem dX9_turnCut_6 : decode cX9_turnCut 6 = .ok (.invokevirtual 29, 3) := by decide +kernel
theorem dX9_turnCut_9 : decode cX9_turnCut 9 = .ok (.ifCond .eq 7, 3) := by decide +kernel
theorem dX9_turnCut_12 : decode cX9_turnCut 12 = .ok (.iconst 0, 1) := by decide +kernel
theorem dX9_turnCut_13 : decode cX9_turnCut 13 = .ok (.goto 4, 3) := by decide +kernel
theorem dX9_turnCut_16 : decode cX9_turnCut 16 = .ok (.iconst 1, 1) := by decide +kernel
theorem dX9_turnCut_17 : decode cX9_turnCut 17 = .ok (.invokevirtual 33, 3) := by decide +kernel
theorem dX9_turnCut_20 : decode cX9_turnCut 20 = .ok (.return_, 1) := by decide +kernel
theorem dX9_setCut_0 : decode cX9_setCut 0 = .ok (.aload_n 0, 1) := by decide +kernel
theorem dX9_setCut_1 : decode cX9_setCut 1 = .ok (.getfield 11, 3) := by decide +kernel
theorem dX9_setCut_4 : decode cX9_setCut 4 = .ok (.bipush 49, 2) := by decide +kernel
theorem dX9_setCut_6 : decode cX9_setCut 6 = .ok (.iload_n 1, 1) := by decide +kernel
theorem dX9_setCut_7 : decode cX9_setCut 7 = .ok (.bipush 6, 2) := by decide +kernel
theorem dX9_setCut_9 : decode cX9_setCut 9 = .ok (.imul, 1) := by decide +kernel
theorem dX9_setCut_10 : decode cX9_setCut 10 = .ok (.iadd, 1) := by decide +kernel
theorem dX9_setCut_11 : decode cX9_setCut 11 = .ok (.iload_n 2, 1) := by decide +kernel
theorem dX9_setCut_12 : decode cX9_setCut 12 = .ok (.iadd, 1) := by decide +kernel
theorem dX9_setCut_13 : decode cX9_setCut 13 = .ok (.iload_n 3, 1) := by decide +kernel
theorem dX9_setCut_14 : decode cX9_setCut 14 = .ok (.iastore, 1) := by decide +kernel
theorem dX9_setCut_15 : decode cX9_setCut 15 = .ok (.aload_n 0, 1) := by decide +kernel
theorem dX9_setCut_16 : decode cX9_setCut 16 = .ok (.getfield 11, 3) := by decide +kernel
theorem dX9_setCut_19 : decode cX9_setCut 19 = .ok (.bipush 49, 2) := by decide +kernel
theorem dX9_setCut_21 : decode cX9_setCut 21 = .ok (.iload_n 2, 1) := by decide +kernel
theorem dX9_setCut_22 : decode cX9_setCut 22 = .ok (.bipush 6, 2) := by decide +kernel
theorem dX9_setCut_24 : decode cX9_setCut 24 = .ok (.imul, 1) := by decide +kernel
theorem dX9_setCut_25 : decode cX9_setCut 25 = .ok (.iadd, 1) := by decide +kernel
theorem dX9_setCut_26 : decode cX9_setCut 26 = .ok (.iload_n 1, 1) := by decide +kernel
theorem dX9_setCut_27 : decode cX9_setCut 27 = .ok (.iadd, 1) := by decide +kernel
theorem dX9_setCut_28 : decode cX9_setCut 28 = .ok (.iload_n 3, 1) := by decide +kernel
theorem dX9_setCut_29 : decode cX9_setCut 29 = .ok (.iastore, 1) := by decide +kernel
theorem dX9_setCut_30 : decode cX9_setCut 30 = .ok (.return_, 1) := by decide +kernel
theorem dX9_likingOf_0 : decode cX9_likingOf 0 = .ok (.aload_n 0, 1) := by decide +kernel
theorem dX9_likingOf_1 : decode cX9_likingOf 1 = .ok (.getfield 11, 3) := by decide +kernel
theorem dX9_likingOf_4 : decode cX9_likingOf 4 = .ok (.bipush 85, 2) := by decide +kernel
theorem dX9_likingOf_6 : decode cX9_likingOf 6 = .ok (.iload_n 1, 1) := by decide +kernel
theorem dX9_likingOf_7 : decode cX9_likingOf 7 = .ok (.bipush 6, 2) := by decide +kernel
theorem dX9_likingOf_9 : decode cX9_likingOf 9 = .ok (.imul, 1) := by decide +kernel
theorem dX9_likingOf_10 : decode cX9_likingOf 10 = .ok (.iadd, 1) := by decide +kernel
theorem dX9_likingOf_11 : decode cX9_likingOf 11 = .ok (.iload_n 2, 1) := by decide +kernel
theorem dX9_likingOf_12 : decode cX9_likingOf 12 = .ok (.iadd, 1) := by decide +kernel
theorem dX9_likingOf_13 : decode cX9_likingOf 13 = .ok (.iaload, 1) := by decide +kernel
theorem dX9_likingOf_14 : decode cX9_likingOf 14 = .ok (.ireturn, 1) := by decide +kernel
theorem dX9_setLiking_0 : decode cX9_setLiking 0 = .ok (.aload_n 0, 1) := by decide +kernel
theorem dX9_setLiking_1 : decode cX9_setLiking 1 = .ok (.getfield 11, 3) := by decide +kernel
theorem dX9_setLiking_4 : decode cX9_setLiking 4 = .ok (.bipush 85, 2) := by decide +kernel
theorem dX9_setLiking_6 : decode cX9_setLiking 6 = .ok (.iload_n 1, 1) := by decide +kernel
theorem dX9_setLiking_7 : decode cX9_setLiking 7 = .ok (.bipush 6, 2) := by decide +kernel
theorem dX9_setLiking_9 : decode cX9_setLiking 9 = .ok (.imul, 1) := by decide +kernel
theorem dX9_setLiking_10 : decode cX9_setLiking 10 = .ok (.iadd, 1) := by decide +kernel
theorem dX9_setLiking_11 : decode cX9_setLiking 11 = .ok (.iload_n 2, 1) := by decide +kernel
theorem dX9_setLiking_12 : decode cX9_setLiking 12 = .ok (.iadd, 1) := by decide +kernel
theorem dX9_setLiking_13 : decode cX9_setLiking 13 = .ok (.iload_n 3, 1) := by decide +kernel
theorem dX9_setLiking_14 : decode cX9_setLiking 14 = .ok (.iastore, 1) := by decide +kernel
theorem dX9_setLiking_15 : decode cX9_setLiking 15 = .ok (.return_, 1) := by decide +kernel
theorem dX9_mannerOf_0 : decode cX9_mannerOf 0 = .ok (.aload_n 0, 1) := by decide +kernel
theorem dX9_mannerOf_1 : decode cX9_mannerOf 1 = .ok (.getfield 11, 3) := by decide +kernel
theorem dX9_mannerOf_4 : decode cX9_mannerOf 4 = .ok (.iconst 1, 1) := by decide +kernel
theorem dX9_mannerOf_5 : decode cX9_mannerOf 5 = .ok (.iload_n 1, 1) := by decide +kernel
theorem dX9_mannerOf_6 : decode cX9_mannerOf 6 = .ok (.iadd, 1) := by decide +kernel
theorem dX9_mannerOf_7 : decode cX9_mannerOf 7 = .ok (.iaload, 1) := by decide +kernel
theorem dX9_mannerOf_8 : decode cX9_mannerOf 8 = .ok (.ireturn, 1) := by decide +kernel
theorem dX9_setManner_0 : decode cX9_setManner 0 = .ok (.aload_n 0, 1) := by decide +kernel
theorem dX9_setManner_1 : decode cX9_setManner 1 = .ok (.getfield 11, 3) := by decide +kernel
theorem dX9_setManner_4 : decode cX9_setManner 4 = .ok (.iconst 1, 1) := by decide +kernel
theorem dX9_setManner_5 : decode cX9_setManner 5 = .ok (.iload_n 1, 1) := by decide +kernel
theorem dX9_setManner_6 : decode cX9_setManner 6 = .ok (.iadd, 1) := by decide +kernel
theorem dX9_setManner_7 : decode cX9_setManner 7 = .ok (.iload_n 2, 1) := by decide +kernel
theorem dX9_setManner_8 : decode cX9_setManner 8 = .ok (.iastore, 1) := by decide +kernel
theorem dX9_setManner_9 : decode cX9_setManner 9 = .ok (.return_, 1) := by decide +kernel
theorem dX9_barsOf_0 : decode cX9_barsOf 0 = .ok (.aload_n 0, 1) := by decide +kernel
theorem dX9_barsOf_1 : decode cX9_barsOf 1 = .ok (.getfield 11, 3) := by decide +kernel
theorem dX9_barsOf_4 : decode cX9_barsOf 4 = .ok (.bipush 7, 2) := by decide +kernel
theorem dX9_barsOf_6 : decode cX9_barsOf 6 = .ok (.iload_n 1, 1) := by decide +kernel
theorem dX9_barsOf_7 : decode cX9_barsOf 7 = .ok (.iadd, 1) := by decide +kernel
theorem dX9_barsOf_8 : decode cX9_barsOf 8 = .ok (.iaload, 1) := by decide +kernel
theorem dX9_barsOf_9 : decode cX9_barsOf 9 = .ok (.ireturn, 1) := by decide +kernel
theorem dX9_setBars_0 : decode cX9_setBars 0 = .ok (.aload_n 0, 1) := by decide +kernel
theorem dX9_setBars_1 : decode cX9_setBars 1 = .ok (.getfield 11, 3) := by decide +kernel
theorem dX9_setBars_4 : decode cX9_setBars 4 = .ok (.bipush 7, 2) := by decide +kernel
theorem dX9_setBars_6 : decode cX9_setBars 6 = .ok (.iload_n 1, 1) := by decide +kernel
