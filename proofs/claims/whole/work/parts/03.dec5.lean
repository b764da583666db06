theorem dX11_looks_50 : decode cX11_looks 50 = .ok (.getfield 26, 3) := by decide +kernel
theorem dX11_looks_53 : decode cX11_looks 53 = .ok (.aload_n 0, 1) := by decide +kernel
theorem dX11_looks_54 : decode cX11_looks 54 = .ok (.getfield 268, 3) := by decide +kernel
theorem dX11_looks_57 : decode cX11_looks 57 = .ok (.iaload, 1) := by decide +kernel
theorem dX11_looks_58 : decode cX11_looks 58 = .ok (.goto 4, 3) := by decide +kernel
theorem dX11_looks_61 : decode cX11_looks 61 = .ok (.iconst 0, 1) := by decide +kernel
theorem dX11_looks_62 : decode cX11_looks 62 = .ok (.ireturn, 1) := by decide +kernel
theorem dX11_reads_0 : decode cX11_reads 0 = .ok (.aload_n 0, 1) := by decide +kernel
theorem dX11_reads_1 : decode cX11_reads 1 = .ok (.aload_n 0, 1) := by decide +kernel
theorem dX11_reads_2 : decode cX11_reads 2 = .ok (.getfield 271, 3) := by decide +kernel
theorem dX11_reads_5 : decode cX11_reads 5 = .ok (.ifCond .ne 7, 3) := by decide +kernel
theorem dX11_reads_8 : decode cX11_reads 8 = .ok (.iload_n 1, 1) := by decide +kernel
theorem dX11_reads_9 : decode cX11_reads 9 = .ok (.ifCond .ne 7, 3) := by decide +kernel
theorem dX11_reads_12 : decode cX11_reads 12 = .ok (.iconst 1, 1) := by decide +kernel
theorem dX11_reads_13 : decode cX11_reads 13 = .ok (.goto 4, 3) := by decide +kernel
theorem dX11_reads_16 : decode cX11_reads 16 = .ok (.iconst 0, 1) := by decide +kernel
theorem dX11_reads_17 : decode cX11_reads 17 = .ok (.putfield 271, 3) := by decide +kernel
theorem dX11_reads_20 : decode cX11_reads 20 = .ok (.aload_n 0, 1) := by decide +kernel
theorem dX11_reads_21 : decode cX11_reads 21 = .ok (.dup, 1) := by decide +kernel
theorem dX11_reads_22 : decode cX11_reads 22 = .ok (.getfield 268, 3) := by decide +kernel
theorem dX11_reads_25 : decode cX11_reads 25 = .ok (.aload_n 0, 1) := by decide +kernel
theorem dX11_reads_26 : decode cX11_reads 26 = .ok (.getfield 271, 3) := by decide +kernel
theorem dX11_reads_29 : decode cX11_reads 29 = .ok (.ifCond .eq 7, 3) := by decide +kernel
theorem dX11_reads_32 : decode cX11_reads 32 = .ok (.iconst 0, 1) := by decide +kernel
theorem dX11_reads_33 : decode cX11_reads 33 = .ok (.goto 4, 3) := by decide +kernel
theorem dX11_reads_36 : decode cX11_reads 36 = .ok (.iconst 1, 1) := by decide +kernel
theorem dX11_reads_37 : decode cX11_reads 37 = .ok (.iadd, 1) := by decide +kernel
theorem dX11_reads_38 : decode cX11_reads 38 = .ok (.putfield 268, 3) := by decide +kernel
theorem dX11_reads_41 : decode cX11_reads 41 = .ok (.return_, 1) := by decide +kernel
theorem dX11_readsLink_0 : decode cX11_readsLink 0 = .ok (.aload_n 0, 1) := by decide +kernel
theorem dX11_readsLink_1 : decode cX11_readsLink 1 = .ok (.invokevirtual 275, 3) := by decide +kernel
theorem dX11_readsLink_4 : decode cX11_readsLink 4 = .ok (.bipush 48, 2) := by decide +kernel
theorem dX11_readsLink_6 : decode cX11_readsLink 6 = .ok (.isub, 1) := by decide +kernel
theorem dX11_readsLink_7 : decode cX11_readsLink 7 = .ok (.istore_n 1, 1) := by decide +kernel
theorem dX11_readsLink_8 : decode cX11_readsLink 8 = .ok (.aload_n 0, 1) := by decide +kernel
theorem dX11_readsLink_9 : decode cX11_readsLink 9 = .ok (.aload_n 0, 1) := by decide +kernel
theorem dX11_readsLink_10 : decode cX11_readsLink 10 = .ok (.iload_n 1, 1) := by decide +kernel
theorem dX11_readsLink_11 : decode cX11_readsLink 11 = .ok (.invokevirtual 92, 3) := by decide +kernel
theorem dX11_readsLink_14 : decode cX11_readsLink 14 = .ok (.invokevirtual 278, 3) := by decide +kernel
theorem dX11_readsLink_17 : decode cX11_readsLink 17 = .ok (.aload_n 0, 1) := by decide +kernel
theorem dX11_readsLink_18 : decode cX11_readsLink 18 = .ok (.getfield 271, 3) := by decide +kernel
theorem dX11_readsLink_21 : decode cX11_readsLink 21 = .ok (.ifCond .eq 7, 3) := by decide +kernel
theorem dX11_readsLink_24 : decode cX11_readsLink 24 = .ok (.iconst 0, 1) := by decide +kernel
theorem dX11_readsLink_25 : decode cX11_readsLink 25 = .ok (.goto 7, 3) := by decide +kernel
theorem dX11_readsLink_28 : decode cX11_readsLink 28 = .ok (.aload_n 0, 1) := by decide +kernel
theorem dX11_readsLink_29 : decode cX11_readsLink 29 = .ok (.invokevirtual 275, 3) := by decide +kernel
theorem dX11_readsLink_32 : decode cX11_readsLink 32 = .ok (.istore_n 2, 1) := by decide +kernel
theorem dX11_readsLink_33 : decode cX11_readsLink 33 = .ok (.iload_n 2, 1) := by decide +kernel
theorem dX11_readsLink_34 : decode cX11_readsLink 34 = .ok (.bipush 62, 2) := by decide +kernel
theorem dX11_readsLink_36 : decode cX11_readsLink 36 = .ok (.if_icmp .ne 7, 3) := by decide +kernel
theorem dX11_readsLink_39 : decode cX11_readsLink 39 = .ok (.iconst 1, 1) := by decide +kernel
theorem dX11_readsLink_40 : decode cX11_readsLink 40 = .ok (.goto 24, 3) := by decide +kernel
theorem dX11_readsLink_43 : decode cX11_readsLink 43 = .ok (.iload_n 2, 1) := by decide +kernel
theorem dX11_readsLink_44 : decode cX11_readsLink 44 = .ok (.bipush 45, 2) := by decide +kernel
theorem dX11_readsLink_46 : decode cX11_readsLink 46 = .ok (.if_icmp .ne 7, 3) := by decide +kernel
theorem dX11_readsLink_49 : decode cX11_readsLink 49 = .ok (.iconst 2, 1) := by decide +kernel
theorem dX11_readsLink_50 : decode cX11_readsLink 50 = .ok (.goto 14, 3) := by decide +kernel
theorem dX11_readsLink_53 : decode cX11_readsLink 53 = .ok (.iload_n 2, 1) := by decide +kernel
theorem dX11_readsLink_54 : decode cX11_readsLink 54 = .ok (.bipush 60, 2) := by decide +kernel
theorem dX11_readsLink_56 : decode cX11_readsLink 56 = .ok (.if_icmp .ne 7, 3) := by decide +kernel
theorem dX11_readsLink_59 : decode cX11_readsLink 59 = .ok (.iconst 3, 1) := by decide +kernel
theorem dX11_readsLink_60 : decode cX11_readsLink 60 = .ok (.goto 4, 3) := by decide +kernel
theorem dX11_readsLink_63 : decode cX11_readsLink 63 = .ok (.iconst 0, 1) := by decide +kernel
theorem dX11_readsLink_64 : decode cX11_readsLink 64 = .ok (.istore_n 3, 1) := by decide +kernel
theorem dX11_readsLink_65 : decode cX11_readsLink 65 = .ok (.aload_n 0, 1) := by decide +kernel
theorem dX11_readsLink_66 : decode cX11_readsLink 66 = .ok (.iload_n 3, 1) := by decide +kernel
theorem dX11_readsLink_67 : decode cX11_readsLink 67 = .ok (.ifCond .le 7, 3) := by decide +kernel
theorem dX11_readsLink_70 : decode cX11_readsLink 70 = .ok (.iconst 1, 1) := by decide +kernel
theorem dX11_readsLink_71 : decode cX11_readsLink 71 = .ok (.goto 4, 3) := by decide +kernel
theorem dX11_readsLink_74 : decode cX11_readsLink 74 = .ok (.iconst 0, 1) := by decide +kernel
theorem dX11_readsLink_75 : decode cX11_readsLink 75 = .ok (.invokevirtual 278, 3) := by decide +kernel
theorem dX11_readsLink_78 : decode cX11_readsLink 78 = .ok (.aload_n 0, 1) := by decide +kernel
theorem dX11_readsLink_79 : decode cX11_readsLink 79 = .ok (.getfield 271, 3) := by decide +kernel
theorem dX11_readsLink_82 : decode cX11_readsLink 82 = .ok (.ifCond .eq 7, 3) := by decide +kernel
theorem dX11_readsLink_85 : decode cX11_readsLink 85 = .ok (.iconst 0, 1) := by decide +kernel
theorem dX11_readsLink_86 : decode cX11_readsLink 86 = .ok (.goto 10, 3) := by decide +kernel
theorem dX11_readsLink_89 : decode cX11_readsLink 89 = .ok (.aload_n 0, 1) := by decide +kernel
theorem dX11_readsLink_90 : decode cX11_readsLink 90 = .ok (.invokevirtual 275, 3) := by decide +kernel
theorem dX11_readsLink_93 : decode cX11_readsLink 93 = .ok (.bipush 48, 2) := by decide +kernel
theorem dX11_readsLink_95 : decode cX11_readsLink 95 = .ok (.isub, 1) := by decide +kernel
theorem dX11_readsLink_96 : decode cX11_readsLink 96 = .ok (.istore 4, 2) := by decide +kernel
theorem dX11_readsLink_98 : decode cX11_readsLink 98 = .ok (.aload_n 0, 1) := by decide +kernel
theorem dX11_readsLink_99 : decode cX11_readsLink 99 = .ok (.aload_n 0, 1) := by decide +kernel
theorem dX11_readsLink_100 : decode cX11_readsLink 100 = .ok (.getfield 271, 3) := by decide +kernel
theorem dX11_readsLink_103 : decode cX11_readsLink 103 = .ok (.ifCond .ne 36, 3) := by decide +kernel
theorem dX11_readsLink_106 : decode cX11_readsLink 106 = .ok (.aload_n 0, 1) := by decide +kernel
theorem dX11_readsLink_107 : decode cX11_readsLink 107 = .ok (.iload 4, 2) := by decide +kernel
theorem dX11_readsLink_109 : decode cX11_readsLink 109 = .ok (.invokevirtual 92, 3) := by decide +kernel
theorem dX11_readsLink_112 : decode cX11_readsLink 112 = .ok (.ifCond .eq 27, 3) := by decide +kernel
theorem dX11_readsLink_115 : decode cX11_readsLink 115 = .ok (.iload 4, 2) := by decide +kernel
theorem dX11_readsLink_117 : decode cX11_readsLink 117 = .ok (.iload_n 1, 1) := by decide +kernel
theorem dX11_readsLink_118 : decode cX11_readsLink 118 = .ok (.if_icmp .eq 21, 3) := by decide +kernel
theorem dX11_readsLink_121 : decode cX11_readsLink 121 = .ok (.aload_n 0, 1) := by decide +kernel
theorem dX11_readsLink_122 : decode cX11_readsLink 122 = .ok (.getfield 75, 3) := by decide +kernel
theorem dX11_readsLink_125 : decode cX11_readsLink 125 = .ok (.iload_n 1, 1) := by decide +kernel
theorem dX11_readsLink_126 : decode cX11_readsLink 126 = .ok (.iload 4, 2) := by decide +kernel
theorem dX11_readsLink_128 : decode cX11_readsLink 128 = .ok (.invokestatic 96, 3) := by decide +kernel
theorem dX11_readsLink_131 : decode cX11_readsLink 131 = .ok (.iaload, 1) := by decide +kernel
theorem dX11_readsLink_132 : decode cX11_readsLink 132 = .ok (.ifCond .ne 7, 3) := by decide +kernel
theorem dX11_readsLink_135 : decode cX11_readsLink 135 = .ok (.iconst 1, 1) := by decide +kernel
theorem dX11_readsLink_136 : decode cX11_readsLink 136 = .ok (.goto 4, 3) := by decide +kernel
theorem dX11_readsLink_139 : decode cX11_readsLink 139 = .ok (.iconst 0, 1) := by decide +kernel
theorem dX11_readsLink_140 : decode cX11_readsLink 140 = .ok (.invokevirtual 278, 3) := by decide +kernel
theorem dX11_readsLink_143 : decode cX11_readsLink 143 = .ok (.aload_n 0, 1) := by decide +kernel
theorem dX11_readsLink_144 : decode cX11_readsLink 144 = .ok (.getfield 271, 3) := by decide +kernel
theorem dX11_readsLink_147 : decode cX11_readsLink 147 = .ok (.ifCond .eq 4, 3) := by decide +kernel
theorem dX11_readsLink_150 : decode cX11_readsLink 150 = .ok (.return_, 1) := by decide +kernel
theorem dX11_readsLink_151 : decode cX11_readsLink 151 = .ok (.aload_n 0, 1) := by decide +kernel
theorem dX11_readsLink_152 : decode cX11_readsLink 152 = .ok (.invokevirtual 275, 3) := by decide +kernel
theorem dX11_readsLink_155 : decode cX11_readsLink 155 = .ok (.bipush 33, 2) := by decide +kernel
theorem dX11_readsLink_157 : decode cX11_readsLink 157 = .ok (.if_icmp .ne 7, 3) := by decide +kernel
theorem dX11_readsLink_160 : decode cX11_readsLink 160 = .ok (.iconst 1, 1) := by decide +kernel
theorem dX11_readsLink_161 : decode cX11_readsLink 161 = .ok (.goto 4, 3) := by decide +kernel
theorem dX11_readsLink_164 : decode cX11_readsLink 164 = .ok (.iconst 0, 1) := by decide +kernel
theorem dX11_readsLink_165 : decode cX11_readsLink 165 = .ok (.istore 5, 2) := by decide +kernel
theorem dX11_readsLink_167 : decode cX11_readsLink 167 = .ok (.aload_n 0, 1) := by decide +kernel
theorem dX11_readsLink_168 : decode cX11_readsLink 168 = .ok (.dup, 1) := by decide +kernel
theorem dX11_readsLink_169 : decode cX11_readsLink 169 = .ok (.getfield 268, 3) := by decide +kernel
theorem dX11_readsLink_172 : decode cX11_readsLink 172 = .ok (.iload 5, 2) := by decide +kernel
theorem dX11_readsLink_174 : decode cX11_readsLink 174 = .ok (.iadd, 1) := by decide +kernel
theorem dX11_readsLink_175 : decode cX11_readsLink 175 = .ok (.putfield 268, 3) := by decide +kernel
theorem dX11_readsLink_178 : decode cX11_readsLink 178 = .ok (.aload_n 0, 1) := by decide +kernel
theorem dX11_readsLink_179 : decode cX11_readsLink 179 = .ok (.getfield 75, 3) := by decide +kernel
theorem dX11_readsLink_182 : decode cX11_readsLink 182 = .ok (.iload_n 1, 1) := by decide +kernel
theorem dX11_readsLink_183 : decode cX11_readsLink 183 = .ok (.iload 4, 2) := by decide +kernel
theorem dX11_readsLink_185 : decode cX11_readsLink 185 = .ok (.invokestatic 96, 3) := by decide +kernel
theorem dX11_readsLink_188 : decode cX11_readsLink 188 = .ok (.iload_n 3, 1) := by decide +kernel
theorem dX11_readsLink_189 : decode cX11_readsLink 189 = .ok (.iastore, 1) := by decide +kernel
theorem dX11_readsLink_190 : decode cX11_readsLink 190 = .ok (.aload_n 0, 1) := by decide +kernel
theorem dX11_readsLink_191 : decode cX11_readsLink 191 = .ok (.getfield 75, 3) := by decide +kernel
theorem dX11_readsLink_194 : decode cX11_readsLink 194 = .ok (.iload 4, 2) := by decide +kernel
theorem dX11_readsLink_196 : decode cX11_readsLink 196 = .ok (.iload_n 1, 1) := by decide +kernel
theorem dX11_readsLink_197 : decode cX11_readsLink 197 = .ok (.invokestatic 96, 3) := by decide +kernel
theorem dX11_readsLink_200 : decode cX11_readsLink 200 = .ok (.iconst 4, 1) := by decide +kernel
theorem dX11_readsLink_201 : decode cX11_readsLink 201 = .ok (.iload_n 3, 1) := by decide +kernel
theorem dX11_readsLink_202 : decode cX11_readsLink 202 = .ok (.isub, 1) := by decide +kernel
theorem dX11_readsLink_203 : decode cX11_readsLink 203 = .ok (.iastore, 1) := by decide +kernel
theorem dX11_readsLink_204 : decode cX11_readsLink 204 = .ok (.aload_n 0, 1) := by decide +kernel
theorem dX11_readsLink_205 : decode cX11_readsLink 205 = .ok (.getfield 78, 3) := by decide +kernel
theorem dX11_readsLink_208 : decode cX11_readsLink 208 = .ok (.iload_n 1, 1) := by decide +kernel
theorem dX11_readsLink_209 : decode cX11_readsLink 209 = .ok (.iload 4, 2) := by decide +kernel
theorem dX11_readsLink_211 : decode cX11_readsLink 211 = .ok (.invokestatic 96, 3) := by decide +kernel
theorem dX11_readsLink_214 : decode cX11_readsLink 214 = .ok (.iload 5, 2) := by decide +kernel
theorem dX11_readsLink_216 : decode cX11_readsLink 216 = .ok (.iastore, 1) := by decide +kernel
theorem dX11_readsLink_217 : decode cX11_readsLink 217 = .ok (.aload_n 0, 1) := by decide +kernel
theorem dX11_readsLink_218 : decode cX11_readsLink 218 = .ok (.getfield 78, 3) := by decide +kernel
theorem dX11_readsLink_221 : decode cX11_readsLink 221 = .ok (.iload 4, 2) := by decide +kernel
theorem dX11_readsLink_223 : decode cX11_readsLink 223 = .ok (.iload_n 1, 1) := by decide +kernel
theorem dX11_readsLink_224 : decode cX11_readsLink 224 = .ok (.invokestatic 96, 3) := by decide +kernel
theorem dX11_readsLink_227 : decode cX11_readsLink 227 = .ok (.iload 5, 2) := by decide +kernel
theorem dX11_readsLink_229 : decode cX11_readsLink 229 = .ok (.iastore, 1) := by decide +kernel
theorem dX11_readsLink_230 : decode cX11_readsLink 230 = .ok (.return_, 1) := by decide +kernel
theorem dX11_readsAll_0 : decode cX11_readsAll 0 = .ok (.aload_n 0, 1) := by decide +kernel
theorem dX11_readsAll_1 : decode cX11_readsAll 1 = .ok (.iconst 0, 1) := by decide +kernel
theorem dX11_readsAll_2 : decode cX11_readsAll 2 = .ok (.putfield 268, 3) := by decide +kernel
theorem dX11_readsAll_5 : decode cX11_readsAll 5 = .ok (.aload_n 0, 1) := by decide +kernel
theorem dX11_readsAll_6 : decode cX11_readsAll 6 = .ok (.iconst 0, 1) := by decide +kernel
theorem dX11_readsAll_7 : decode cX11_readsAll 7 = .ok (.putfield 271, 3) := by decide +kernel
theorem dX11_readsAll_10 : decode cX11_readsAll 10 = .ok (.iconst 0, 1) := by decide +kernel
theorem dX11_readsAll_11 : decode cX11_readsAll 11 = .ok (.istore_n 1, 1) := by decide +kernel
theorem dX11_readsAll_12 : decode cX11_readsAll 12 = .ok (.iload_n 1, 1) := by decide +kernel
theorem dX11_readsAll_13 : decode cX11_readsAll 13 = .ok (.bipush 36, 2) := by decide +kernel
theorem dX11_readsAll_15 : decode cX11_readsAll 15 = .ok (.if_icmp .ge 23, 3) := by decide +kernel
theorem dX11_readsAll_18 : decode cX11_readsAll 18 = .ok (.aload_n 0, 1) := by decide +kernel
theorem dX11_readsAll_19 : decode cX11_readsAll 19 = .ok (.getfield 75, 3) := by decide +kernel
theorem dX11_readsAll_22 : decode cX11_readsAll 22 = .ok (.iload_n 1, 1) := by decide +kernel
theorem dX11_readsAll_23 : decode cX11_readsAll 23 = .ok (.iconst 0, 1) := by decide +kernel
theorem dX11_readsAll_24 : decode cX11_readsAll 24 = .ok (.iastore, 1) := by decide +kernel
theorem dX11_readsAll_25 : decode cX11_readsAll 25 = .ok (.aload_n 0, 1) := by decide +kernel
theorem dX11_readsAll_26 : decode cX11_readsAll 26 = .ok (.getfield 78, 3) := by decide +kernel
theorem dX11_readsAll_29 : decode cX11_readsAll 29 = .ok (.iload_n 1, 1) := by decide +kernel
theorem dX11_readsAll_30 : decode cX11_readsAll 30 = .ok (.iconst 0, 1) := by decide +kernel
theorem dX11_readsAll_31 : decode cX11_readsAll 31 = .ok (.iastore, 1) := by decide +kernel
theorem dX11_readsAll_32 : decode cX11_readsAll 32 = .ok (.iinc 1 1, 3) := by decide +kernel
theorem dX11_readsAll_35 : decode cX11_readsAll 35 = .ok (.goto (-23), 3) := by decide +kernel
theorem dX11_readsAll_38 : decode cX11_readsAll 38 = .ok (.aload_n 0, 1) := by decide +kernel
theorem dX11_readsAll_39 : decode cX11_readsAll 39 = .ok (.invokevirtual 275, 3) := by decide +kernel
theorem dX11_readsAll_42 : decode cX11_readsAll 42 = .ok (.ifCond .eq 7, 3) := by decide +kernel
theorem dX11_readsAll_45 : decode cX11_readsAll 45 = .ok (.iconst 1, 1) := by decide +kernel
theorem dX11_readsAll_46 : decode cX11_readsAll 46 = .ok (.goto 4, 3) := by decide +kernel
theorem dX11_readsAll_49 : decode cX11_readsAll 49 = .ok (.iconst 0, 1) := by decide +kernel
theorem dX11_readsAll_50 : decode cX11_readsAll 50 = .ok (.istore_n 1, 1) := by decide +kernel
theorem dX11_readsAll_51 : decode cX11_readsAll 51 = .ok (.iload_n 1, 1) := by decide +kernel
theorem dX11_readsAll_52 : decode cX11_readsAll 52 = .ok (.ifCond .eq 57, 3) := by decide +kernel
theorem dX11_readsAll_55 : decode cX11_readsAll 55 = .ok (.aload_n 0, 1) := by decide +kernel
theorem dX11_readsAll_56 : decode cX11_readsAll 56 = .ok (.getfield 271, 3) := by decide +kernel
theorem dX11_readsAll_59 : decode cX11_readsAll 59 = .ok (.ifCond .ne 50, 3) := by decide +kernel
theorem dX11_readsAll_62 : decode cX11_readsAll 62 = .ok (.aload_n 0, 1) := by decide +kernel
theorem dX11_readsAll_63 : decode cX11_readsAll 63 = .ok (.invokevirtual 282, 3) := by decide +kernel
theorem dX11_readsAll_66 : decode cX11_readsAll 66 = .ok (.aload_n 0, 1) := by decide +kernel
theorem dX11_readsAll_67 : decode cX11_readsAll 67 = .ok (.getfield 271, 3) := by decide +kernel
theorem dX11_readsAll_70 : decode cX11_readsAll 70 = .ok (.ifCond .ne 16, 3) := by decide +kernel
theorem dX11_readsAll_73 : decode cX11_readsAll 73 = .ok (.aload_n 0, 1) := by decide +kernel
theorem dX11_readsAll_74 : decode cX11_readsAll 74 = .ok (.invokevirtual 275, 3) := by decide +kernel
theorem dX11_readsAll_77 : decode cX11_readsAll 77 = .ok (.bipush 44, 2) := by decide +kernel
theorem dX11_readsAll_79 : decode cX11_readsAll 79 = .ok (.if_icmp .ne 7, 3) := by decide +kernel
theorem dX11_readsAll_82 : decode cX11_readsAll 82 = .ok (.iconst 1, 1) := by decide +kernel
theorem dX11_readsAll_83 : decode cX11_readsAll 83 = .ok (.goto 4, 3) := by decide +kernel
theorem dX11_readsAll_86 : decode cX11_readsAll 86 = .ok (.iconst 0, 1) := by decide +kernel
theorem dX11_readsAll_87 : decode cX11_readsAll 87 = .ok (.istore_n 1, 1) := by decide +kernel
theorem dX11_readsAll_88 : decode cX11_readsAll 88 = .ok (.aload_n 0, 1) := by decide +kernel
theorem dX11_readsAll_89 : decode cX11_readsAll 89 = .ok (.dup, 1) := by decide +kernel
theorem dX11_readsAll_90 : decode cX11_readsAll 90 = .ok (.getfield 268, 3) := by decide +kernel
theorem dX11_readsAll_93 : decode cX11_readsAll 93 = .ok (.iload_n 1, 1) := by decide +kernel
theorem dX11_readsAll_94 : decode cX11_readsAll 94 = .ok (.ifCond .eq 7, 3) := by decide +kernel
theorem dX11_readsAll_97 : decode cX11_readsAll 97 = .ok (.iconst 1, 1) := by decide +kernel
theorem dX11_readsAll_98 : decode cX11_readsAll 98 = .ok (.goto 4, 3) := by decide +kernel
theorem dX11_readsAll_101 : decode cX11_readsAll 101 = .ok (.iconst 0, 1) := by decide +kernel
theorem dX11_readsAll_102 : decode cX11_readsAll 102 = .ok (.iadd, 1) := by decide +kernel
theorem dX11_readsAll_103 : decode cX11_readsAll 103 = .ok (.putfield 268, 3) := by decide +kernel
theorem dX11_readsAll_106 : decode cX11_readsAll 106 = .ok (.goto (-55), 3) := by decide +kernel
theorem dX11_readsAll_109 : decode cX11_readsAll 109 = .ok (.aload_n 0, 1) := by decide +kernel
theorem dX11_readsAll_110 : decode cX11_readsAll 110 = .ok (.aload_n 0, 1) := by decide +kernel
theorem dX11_readsAll_111 : decode cX11_readsAll 111 = .ok (.getfield 271, 3) := by decide +kernel
theorem dX11_readsAll_114 : decode cX11_readsAll 114 = .ok (.ifCond .ne 10, 3) := by decide +kernel
theorem dX11_readsAll_117 : decode cX11_readsAll 117 = .ok (.aload_n 0, 1) := by decide +kernel
theorem dX11_readsAll_118 : decode cX11_readsAll 118 = .ok (.invokevirtual 275, 3) := by decide +kernel
theorem dX11_readsAll_121 : decode cX11_readsAll 121 = .ok (.ifCond .eq 7, 3) := by decide +kernel
theorem dX11_readsAll_124 : decode cX11_readsAll 124 = .ok (.iconst 1, 1) := by decide +kernel
theorem dX11_readsAll_125 : decode cX11_readsAll 125 = .ok (.goto 4, 3) := by decide +kernel
theorem dX11_readsAll_128 : decode cX11_readsAll 128 = .ok (.iconst 0, 1) := by decide +kernel
theorem dX11_readsAll_129 : decode cX11_readsAll 129 = .ok (.putfield 271, 3) := by decide +kernel
theorem dX11_readsAll_132 : decode cX11_readsAll 132 = .ok (.return_, 1) := by decide +kernel
theorem dX11_read_0 : decode cX11_read 0 = .ok (.aload_n 0, 1) := by decide +kernel
theorem dX11_read_1 : decode cX11_read 1 = .ok (.invokevirtual 285, 3) := by decide +kernel
theorem dX11_read_4 : decode cX11_read 4 = .ok (.aload_n 0, 1) := by decide +kernel
theorem dX11_read_5 : decode cX11_read 5 = .ok (.invokevirtual 275, 3) := by decide +kernel
theorem dX11_read_8 : decode cX11_read 8 = .ok (.pop, 1) := by decide +kernel
theorem dX11_read_9 : decode cX11_read 9 = .ok (.aload_n 0, 1) := by decide +kernel
theorem dX11_read_10 : decode cX11_read 10 = .ok (.getfield 268, 3) := by decide +kernel
theorem dX11_read_13 : decode cX11_read 13 = .ok (.istore_n 1, 1) := by decide +kernel
theorem dX11_read_14 : decode cX11_read 14 = .ok (.aload_n 0, 1) := by decide +kernel
theorem dX11_read_15 : decode cX11_read 15 = .ok (.iconst 0, 1) := by decide +kernel
theorem dX11_read_16 : decode cX11_read 16 = .ok (.putfield 265, 3) := by decide +kernel
theorem dX11_read_19 : decode cX11_read 19 = .ok (.aload_n 0, 1) := by decide +kernel
theorem dX11_read_20 : decode cX11_read 20 = .ok (.getfield 271, 3) := by decide +kernel
theorem dX11_read_23 : decode cX11_read 23 = .ok (.ifCond .eq 8, 3) := by decide +kernel
theorem dX11_read_26 : decode cX11_read 26 = .ok (.bipush (-20), 2) := by decide +kernel
theorem dX11_read_28 : decode cX11_read 28 = .ok (.iload_n 1, 1) := by decide +kernel
theorem dX11_read_29 : decode cX11_read 29 = .ok (.isub, 1) := by decide +kernel
theorem dX11_read_30 : decode cX11_read 30 = .ok (.ireturn, 1) := by decide +kernel
theorem dX11_read_31 : decode cX11_read 31 = .ok (.aload_n 0, 1) := by decide +kernel
theorem dX11_read_32 : decode cX11_read 32 = .ok (.invokevirtual 106, 3) := by decide +kernel
theorem dX11_read_35 : decode cX11_read 35 = .ok (.aload_n 0, 1) := by decide +kernel
theorem dX11_read_36 : decode cX11_read 36 = .ok (.getfield 75, 3) := by decide +kernel
theorem dX11_read_39 : decode cX11_read 39 = .ok (.iconst 0, 1) := by decide +kernel
theorem dX11_read_40 : decode cX11_read 40 = .ok (.aload_n 0, 1) := by decide +kernel
theorem dX11_read_41 : decode cX11_read 41 = .ok (.getfield 7, 3) := by decide +kernel
theorem dX11_read_44 : decode cX11_read 44 = .ok (.iconst 1, 1) := by decide +kernel
theorem dX11_read_45 : decode cX11_read 45 = .ok (.bipush 36, 2) := by decide +kernel
theorem dX11_read_47 : decode cX11_read 47 = .ok (.invokestatic 84, 3) := by decide +kernel
theorem dX11_read_50 : decode cX11_read 50 = .ok (.aload_n 0, 1) := by decide +kernel
theorem dX11_read_51 : decode cX11_read 51 = .ok (.getfield 78, 3) := by decide +kernel
theorem dX11_read_54 : decode cX11_read 54 = .ok (.iconst 0, 1) := by decide +kernel
theorem dX11_read_55 : decode cX11_read 55 = .ok (.aload_n 0, 1) := by decide +kernel
theorem dX11_read_56 : decode cX11_read 56 = .ok (.getfield 7, 3) := by decide +kernel
theorem dX11_read_59 : decode cX11_read 59 = .ok (.bipush 37, 2) := by decide +kernel
theorem dX11_read_61 : decode cX11_read 61 = .ok (.bipush 36, 2) := by decide +kernel
theorem dX11_read_63 : decode cX11_read 63 = .ok (.invokestatic 84, 3) := by decide +kernel
theorem dX11_read_66 : decode cX11_read 66 = .ok (.aload_n 0, 1) := by decide +kernel
theorem dX11_read_67 : decode cX11_read 67 = .ok (.iconst 1, 1) := by decide +kernel
theorem dX11_read_68 : decode cX11_read 68 = .ok (.invokevirtual 187, 3) := by decide +kernel
theorem dX11_read_71 : decode cX11_read 71 = .ok (.ireturn, 1) := by decide +kernel
theorem dX11_drifts_0 : decode cX11_drifts 0 = .ok (.iload_n 1, 1) := by decide +kernel
theorem dX11_drifts_1 : decode cX11_drifts 1 = .ok (.bipush 8, 2) := by decide +kernel
theorem dX11_drifts_3 : decode cX11_drifts 3 = .ok (.idiv, 1) := by decide +kernel
theorem dX11_drifts_4 : decode cX11_drifts 4 = .ok (.istore_n 2, 1) := by decide +kernel
theorem dX11_drifts_5 : decode cX11_drifts 5 = .ok (.iload_n 2, 1) := by decide +kernel
theorem dX11_drifts_6 : decode cX11_drifts 6 = .ok (.aload_n 0, 1) := by decide +kernel
theorem dX11_drifts_7 : decode cX11_drifts 7 = .ok (.getfield 7, 3) := by decide +kernel
theorem dX11_drifts_10 : decode cX11_drifts 10 = .ok (.iconst 0, 1) := by decide +kernel
theorem dX11_drifts_11 : decode cX11_drifts 11 = .ok (.iaload, 1) := by decide +kernel
theorem dX11_drifts_12 : decode cX11_drifts 12 = .ok (.irem, 1) := by decide +kernel
theorem dX11_drifts_13 : decode cX11_drifts 13 = .ok (.istore_n 3, 1) := by decide +kernel
theorem dX11_drifts_14 : decode cX11_drifts 14 = .ok (.iload_n 2, 1) := by decide +kernel
theorem dX11_drifts_15 : decode cX11_drifts 15 = .ok (.bipush 8, 2) := by decide +kernel
theorem dX11_drifts_17 : decode cX11_drifts 17 = .ok (.idiv, 1) := by decide +kernel
theorem dX11_drifts_18 : decode cX11_drifts 18 = .ok (.aload_n 0, 1) := by decide +kernel
theorem dX11_drifts_19 : decode cX11_drifts 19 = .ok (.getfield 7, 3) := by decide +kernel
theorem dX11_drifts_22 : decode cX11_drifts 22 = .ok (.iconst 0, 1) := by decide +kernel
theorem dX11_drifts_23 : decode cX11_drifts 23 = .ok (.iaload, 1) := by decide +kernel
theorem dX11_drifts_24 : decode cX11_drifts 24 = .ok (.irem, 1) := by decide +kernel
theorem dX11_drifts_25 : decode cX11_drifts 25 = .ok (.istore 4, 2) := by decide +kernel
theorem dX11_drifts_27 : decode cX11_drifts 27 = .ok (.iload_n 2, 1) := by decide +kernel
theorem dX11_drifts_28 : decode cX11_drifts 28 = .ok (.bipush 64, 2) := by decide +kernel
theorem dX11_drifts_30 : decode cX11_drifts 30 = .ok (.idiv, 1) := by decide +kernel
theorem dX11_drifts_31 : decode cX11_drifts 31 = .ok (.istore 5, 2) := by decide +kernel
theorem dX11_drifts_33 : decode cX11_drifts 33 = .ok (.iload_n 1, 1) := by decide +kernel
theorem dX11_drifts_34 : decode cX11_drifts 34 = .ok (.bipush 8, 2) := by decide +kernel
theorem dX11_drifts_36 : decode cX11_drifts 36 = .ok (.irem, 1) := by decide +kernel
theorem dX11_drifts_37 : decode cX11_drifts 37 = .ok (.istore 6, 2) := by decide +kernel
theorem dX11_drifts_39 : decode cX11_drifts 39 = .ok (.iload_n 3, 1) := by decide +kernel
theorem dX11_drifts_40 : decode cX11_drifts 40 = .ok (.iload 4, 2) := by decide +kernel
theorem dX11_drifts_42 : decode cX11_drifts 42 = .ok (.invokestatic 96, 3) := by decide +kernel
theorem dX11_drifts_45 : decode cX11_drifts 45 = .ok (.istore 7, 2) := by decide +kernel
theorem dX11_drifts_47 : decode cX11_drifts 47 = .ok (.iload 6, 2) := by decide +kernel
theorem dX11_drifts_49 : decode cX11_drifts 49 = .ok (.bipush 6, 2) := by decide +kernel
theorem dX11_drifts_51 : decode cX11_drifts 51 = .ok (.if_icmp .le 12, 3) := by decide +kernel
theorem dX11_drifts_54 : decode cX11_drifts 54 = .ok (.aload_n 0, 1) := by decide +kernel
theorem dX11_drifts_55 : decode cX11_drifts 55 = .ok (.iload_n 3, 1) := by decide +kernel
theorem dX11_drifts_56 : decode cX11_drifts 56 = .ok (.invokevirtual 202, 3) := by decide +kernel
theorem dX11_drifts_59 : decode cX11_drifts 59 = .ok (.pop, 1) := by decide +kernel
theorem dX11_drifts_60 : decode cX11_drifts 60 = .ok (.goto 178, 3) := by decide +kernel
theorem dX11_drifts_63 : decode cX11_drifts 63 = .ok (.iload 6, 2) := by decide +kernel
theorem dX11_drifts_65 : decode cX11_drifts 65 = .ok (.iconst 4, 1) := by decide +kernel
theorem dX11_drifts_66 : decode cX11_drifts 66 = .ok (.if_icmp .le 11, 3) := by decide +kernel
theorem dX11_drifts_69 : decode cX11_drifts 69 = .ok (.aload_n 0, 1) := by decide +kernel
theorem dX11_drifts_70 : decode cX11_drifts 70 = .ok (.invokevirtual 199, 3) := by decide +kernel
theorem dX11_drifts_73 : decode cX11_drifts 73 = .ok (.pop, 1) := by decide +kernel
theorem dX11_drifts_74 : decode cX11_drifts 74 = .ok (.goto 164, 3) := by decide +kernel
theorem dX11_drifts_77 : decode cX11_drifts 77 = .ok (.iload 6, 2) := by decide +kernel
theorem dX11_drifts_79 : decode cX11_drifts 79 = .ok (.iconst 3, 1) := by decide +kernel
theorem dX11_drifts_80 : decode cX11_drifts 80 = .ok (.if_icmp .ne 19, 3) := by decide +kernel
theorem dX11_drifts_83 : decode cX11_drifts 83 = .ok (.aload_n 0, 1) := by decide +kernel
theorem dX11_drifts_84 : decode cX11_drifts 84 = .ok (.getfield 7, 3) := by decide +kernel
theorem dX11_drifts_87 : decode cX11_drifts 87 = .ok (.bipush 109, 2) := by decide +kernel
theorem dX11_drifts_89 : decode cX11_drifts 89 = .ok (.iload_n 3, 1) := by decide +kernel
theorem dX11_drifts_90 : decode cX11_drifts 90 = .ok (.iadd, 1) := by decide +kernel
theorem dX11_drifts_91 : decode cX11_drifts 91 = .ok (.iload 5, 2) := by decide +kernel
theorem dX11_drifts_93 : decode cX11_drifts 93 = .ok (.iconst 4, 1) := by decide +kernel
theorem dX11_drifts_94 : decode cX11_drifts 94 = .ok (.irem, 1) := by decide +kernel
theorem dX11_drifts_95 : decode cX11_drifts 95 = .ok (.iastore, 1) := by decide +kernel
theorem dX11_drifts_96 : decode cX11_drifts 96 = .ok (.goto 142, 3) := by decide +kernel
theorem dX11_drifts_99 : decode cX11_drifts 99 = .ok (.iload_n 3, 1) := by decide +kernel
theorem dX11_drifts_100 : decode cX11_drifts 100 = .ok (.iload 4, 2) := by decide +kernel
theorem dX11_drifts_102 : decode cX11_drifts 102 = .ok (.if_icmp .eq 23, 3) := by decide +kernel
theorem dX11_drifts_105 : decode cX11_drifts 105 = .ok (.iload 6, 2) := by decide +kernel
theorem dX11_drifts_107 : decode cX11_drifts 107 = .ok (.ifCond .ne 18, 3) := by decide +kernel
theorem dX11_drifts_110 : decode cX11_drifts 110 = .ok (.aload_n 0, 1) := by decide +kernel
theorem dX11_drifts_111 : decode cX11_drifts 111 = .ok (.iload_n 3, 1) := by decide +kernel
theorem dX11_drifts_112 : decode cX11_drifts 112 = .ok (.iload 4, 2) := by decide +kernel
theorem dX11_drifts_114 : decode cX11_drifts 114 = .ok (.iload 5, 2) := by decide +kernel
theorem dX11_drifts_116 : decode cX11_drifts 116 = .ok (.iconst 4, 1) := by decide +kernel
theorem dX11_drifts_117 : decode cX11_drifts 117 = .ok (.irem, 1) := by decide +kernel
theorem dX11_drifts_118 : decode cX11_drifts 118 = .ok (.iconst 0, 1) := by decide +kernel
theorem dX11_drifts_119 : decode cX11_drifts 119 = .ok (.invokevirtual 109, 3) := by decide +kernel
theorem dX11_drifts_122 : decode cX11_drifts 122 = .ok (.goto 116, 3) := by decide +kernel
theorem dX11_drifts_125 : decode cX11_drifts 125 = .ok (.iload_n 3, 1) := by decide +kernel
theorem dX11_drifts_126 : decode cX11_drifts 126 = .ok (.iload 4, 2) := by decide +kernel
theorem dX11_drifts_128 : decode cX11_drifts 128 = .ok (.if_icmp .eq 52, 3) := by decide +kernel
theorem dX11_drifts_131 : decode cX11_drifts 131 = .ok (.iload 6, 2) := by decide +kernel
theorem dX11_drifts_133 : decode cX11_drifts 133 = .ok (.iconst 1, 1) := by decide +kernel
theorem dX11_drifts_134 : decode cX11_drifts 134 = .ok (.if_icmp .ne 46, 3) := by decide +kernel
theorem dX11_drifts_137 : decode cX11_drifts 137 = .ok (.aload_n 0, 1) := by decide +kernel
theorem dX11_drifts_138 : decode cX11_drifts 138 = .ok (.getfield 7, 3) := by decide +kernel
theorem dX11_drifts_141 : decode cX11_drifts 141 = .ok (.iconst 1, 1) := by decide +kernel
theorem dX11_drifts_142 : decode cX11_drifts 142 = .ok (.iload 7, 2) := by decide +kernel
theorem dX11_drifts_144 : decode cX11_drifts 144 = .ok (.iadd, 1) := by decide +kernel
theorem dX11_drifts_145 : decode cX11_drifts 145 = .ok (.iaload, 1) := by decide +kernel
theorem dX11_drifts_146 : decode cX11_drifts 146 = .ok (.ifCond .le 34, 3) := by decide +kernel
theorem dX11_drifts_149 : decode cX11_drifts 149 = .ok (.aload_n 0, 1) := by decide +kernel
theorem dX11_drifts_150 : decode cX11_drifts 150 = .ok (.iload_n 3, 1) := by decide +kernel
theorem dX11_drifts_151 : decode cX11_drifts 151 = .ok (.iload 4, 2) := by decide +kernel
theorem dX11_drifts_153 : decode cX11_drifts 153 = .ok (.aload_n 0, 1) := by decide +kernel
theorem dX11_drifts_154 : decode cX11_drifts 154 = .ok (.getfield 7, 3) := by decide +kernel
theorem dX11_drifts_157 : decode cX11_drifts 157 = .ok (.iconst 1, 1) := by decide +kernel
theorem dX11_drifts_158 : decode cX11_drifts 158 = .ok (.iload 7, 2) := by decide +kernel
theorem dX11_drifts_160 : decode cX11_drifts 160 = .ok (.iadd, 1) := by decide +kernel
theorem dX11_drifts_161 : decode cX11_drifts 161 = .ok (.iaload, 1) := by decide +kernel
theorem dX11_drifts_162 : decode cX11_drifts 162 = .ok (.iconst 1, 1) := by decide +kernel
theorem dX11_drifts_163 : decode cX11_drifts 163 = .ok (.aload_n 0, 1) := by decide +kernel
theorem dX11_drifts_164 : decode cX11_drifts 164 = .ok (.getfield 7, 3) := by decide +kernel
theorem dX11_drifts_167 : decode cX11_drifts 167 = .ok (.bipush 37, 2) := by decide +kernel
theorem dX11_drifts_169 : decode cX11_drifts 169 = .ok (.iload 7, 2) := by decide +kernel
theorem dX11_drifts_171 : decode cX11_drifts 171 = .ok (.iadd, 1) := by decide +kernel
theorem dX11_drifts_172 : decode cX11_drifts 172 = .ok (.iaload, 1) := by decide +kernel
theorem dX11_drifts_173 : decode cX11_drifts 173 = .ok (.isub, 1) := by decide +kernel
theorem dX11_drifts_174 : decode cX11_drifts 174 = .ok (.invokevirtual 109, 3) := by decide +kernel
theorem dX11_drifts_177 : decode cX11_drifts 177 = .ok (.goto 61, 3) := by decide +kernel
theorem dX11_drifts_180 : decode cX11_drifts 180 = .ok (.iload_n 3, 1) := by decide +kernel
theorem dX11_drifts_181 : decode cX11_drifts 181 = .ok (.iload 4, 2) := by decide +kernel
theorem dX11_drifts_183 : decode cX11_drifts 183 = .ok (.if_icmp .eq 27, 3) := by decide +kernel
theorem dX11_drifts_186 : decode cX11_drifts 186 = .ok (.iload 6, 2) := by decide +kernel
theorem dX11_drifts_188 : decode cX11_drifts 188 = .ok (.iconst 2, 1) := by decide +kernel
theorem dX11_drifts_189 : decode cX11_drifts 189 = .ok (.if_icmp .ne 21, 3) := by decide +kernel
theorem dX11_drifts_192 : decode cX11_drifts 192 = .ok (.aload_n 0, 1) := by decide +kernel
theorem dX11_drifts_193 : decode cX11_drifts 193 = .ok (.getfield 7, 3) := by decide +kernel
theorem dX11_drifts_196 : decode cX11_drifts 196 = .ok (.bipush 73, 2) := by decide +kernel
theorem dX11_drifts_198 : decode cX11_drifts 198 = .ok (.iload 7, 2) := by decide +kernel
theorem dX11_drifts_200 : decode cX11_drifts 200 = .ok (.iadd, 1) := by decide +kernel
theorem dX11_drifts_201 : decode cX11_drifts 201 = .ok (.iload 5, 2) := by decide +kernel
theorem dX11_drifts_203 : decode cX11_drifts 203 = .ok (.bipush 10, 2) := by decide +kernel
theorem dX11_drifts_205 : decode cX11_drifts 205 = .ok (.irem, 1) := by decide +kernel
theorem dX11_drifts_206 : decode cX11_drifts 206 = .ok (.iastore, 1) := by decide +kernel
theorem dX11_drifts_207 : decode cX11_drifts 207 = .ok (.goto 31, 3) := by decide +kernel
theorem dX11_drifts_210 : decode cX11_drifts 210 = .ok (.iload_n 3, 1) := by decide +kernel
theorem dX11_drifts_211 : decode cX11_drifts 211 = .ok (.iload 4, 2) := by decide +kernel
theorem dX11_drifts_213 : decode cX11_drifts 213 = .ok (.if_icmp .eq 25, 3) := by decide +kernel
theorem dX11_drifts_216 : decode cX11_drifts 216 = .ok (.iload 6, 2) := by decide +kernel
theorem dX11_drifts_218 : decode cX11_drifts 218 = .ok (.iconst 4, 1) := by decide +kernel
theorem dX11_drifts_219 : decode cX11_drifts 219 = .ok (.if_icmp .ne 19, 3) := by decide +kernel
theorem dX11_drifts_222 : decode cX11_drifts 222 = .ok (.aload_n 0, 1) := by decide +kernel
theorem dX11_drifts_223 : decode cX11_drifts 223 = .ok (.getfield 7, 3) := by decide +kernel
theorem dX11_drifts_226 : decode cX11_drifts 226 = .ok (.bipush 115, 2) := by decide +kernel
theorem dX11_drifts_228 : decode cX11_drifts 228 = .ok (.iload_n 3, 1) := by decide +kernel
theorem dX11_drifts_229 : decode cX11_drifts 229 = .ok (.iadd, 1) := by decide +kernel
theorem dX11_drifts_230 : decode cX11_drifts 230 = .ok (.dup2, 1) := by decide +kernel
theorem dX11_drifts_231 : decode cX11_drifts 231 = .ok (.iaload, 1) := by decide +kernel
theorem dX11_drifts_232 : decode cX11_drifts 232 = .ok (.iconst 1, 1) := by decide +kernel
theorem dX11_drifts_233 : decode cX11_drifts 233 = .ok (.iload 4, 2) := by decide +kernel
theorem dX11_drifts_235 : decode cX11_drifts 235 = .ok (.ishl, 1) := by decide +kernel
theorem dX11_drifts_236 : decode cX11_drifts 236 = .ok (.ixor, 1) := by decide +kernel
theorem dX11_drifts_237 : decode cX11_drifts 237 = .ok (.iastore, 1) := by decide +kernel
theorem dX11_drifts_238 : decode cX11_drifts 238 = .ok (.return_, 1) := by decide +kernel
theorem dX11_drift_0 : decode cX11_drift 0 = .ok (.iload_n 1, 1) := by decide +kernel
theorem dX11_drift_1 : decode cX11_drift 1 = .ok (.i2l, 1) := by decide +kernel
theorem dX11_drift_2 : decode cX11_drift 2 = .ok (.lconst 1, 1) := by decide +kernel
theorem dX11_drift_3 : decode cX11_drift 3 = .ok (.ldc2_w 288, 3) := by decide +kernel
theorem dX11_drift_6 : decode cX11_drift 6 = .ok (.invokestatic 88, 3) := by decide +kernel
theorem dX11_drift_9 : decode cX11_drift 9 = .ok (.ifCond .ne 5, 3) := by decide +kernel
theorem dX11_drift_12 : decode cX11_drift 12 = .ok (.iconst (-1), 1) := by decide +kernel
theorem dX11_drift_13 : decode cX11_drift 13 = .ok (.ireturn, 1) := by decide +kernel
theorem dX11_drift_14 : decode cX11_drift 14 = .ok (.iconst 0, 1) := by decide +kernel
theorem dX11_drift_15 : decode cX11_drift 15 = .ok (.istore_n 2, 1) := by decide +kernel
theorem dX11_drift_16 : decode cX11_drift 16 = .ok (.iload_n 2, 1) := by decide +kernel
theorem dX11_drift_17 : decode cX11_drift 17 = .ok (.iload_n 1, 1) := by decide +kernel
theorem dX11_drift_18 : decode cX11_drift 18 = .ok (.if_icmp .ge 58, 3) := by decide +kernel
theorem dX11_drift_21 : decode cX11_drift 21 = .ok (.aload_n 0, 1) := by decide +kernel
theorem dX11_drift_22 : decode cX11_drift 22 = .ok (.invokevirtual 106, 3) := by decide +kernel
theorem dX11_drift_25 : decode cX11_drift 25 = .ok (.aload_n 0, 1) := by decide +kernel
theorem dX11_drift_26 : decode cX11_drift 26 = .ok (.getfield 7, 3) := by decide +kernel
theorem dX11_drift_29 : decode cX11_drift 29 = .ok (.bipush 127, 2) := by decide +kernel
theorem dX11_drift_31 : decode cX11_drift 31 = .ok (.iaload, 1) := by decide +kernel
theorem dX11_drift_32 : decode cX11_drift 32 = .ok (.i2l, 1) := by decide +kernel
theorem dX11_drift_33 : decode cX11_drift 33 = .ok (.ldc2_w 290, 3) := by decide +kernel
theorem dX11_drift_36 : decode cX11_drift 36 = .ok (.lmul, 1) := by decide +kernel
theorem dX11_drift_37 : decode cX11_drift 37 = .ok (.ldc2_w 292, 3) := by decide +kernel
theorem dX11_drift_40 : decode cX11_drift 40 = .ok (.ladd, 1) := by decide +kernel
theorem dX11_drift_41 : decode cX11_drift 41 = .ok (.lstore_n 3, 1) := by decide +kernel
theorem dX11_drift_42 : decode cX11_drift 42 = .ok (.aload_n 0, 1) := by decide +kernel
theorem dX11_drift_43 : decode cX11_drift 43 = .ok (.getfield 7, 3) := by decide +kernel
theorem dX11_drift_46 : decode cX11_drift 46 = .ok (.bipush 127, 2) := by decide +kernel
theorem dX11_drift_48 : decode cX11_drift 48 = .ok (.lload_n 3, 1) := by decide +kernel
theorem dX11_drift_49 : decode cX11_drift 49 = .ok (.ldc2_w 294, 3) := by decide +kernel
theorem dX11_drift_52 : decode cX11_drift 52 = .ok (.lrem, 1) := by decide +kernel
theorem dX11_drift_53 : decode cX11_drift 53 = .ok (.l2i, 1) := by decide +kernel
theorem dX11_drift_54 : decode cX11_drift 54 = .ok (.iastore, 1) := by decide +kernel
theorem dX11_drift_55 : decode cX11_drift 55 = .ok (.aload_n 0, 1) := by decide +kernel
theorem dX11_drift_56 : decode cX11_drift 56 = .ok (.aload_n 0, 1) := by decide +kernel
theorem dX11_drift_57 : decode cX11_drift 57 = .ok (.getfield 7, 3) := by decide +kernel
theorem dX11_drift_60 : decode cX11_drift 60 = .ok (.bipush 127, 2) := by decide +kernel
theorem dX11_drift_62 : decode cX11_drift 62 = .ok (.iaload, 1) := by decide +kernel
theorem dX11_drift_63 : decode cX11_drift 63 = .ok (.ldc_w 296, 3) := by decide +kernel
theorem dX11_drift_66 : decode cX11_drift 66 = .ok (.idiv, 1) := by decide +kernel
theorem dX11_drift_67 : decode cX11_drift 67 = .ok (.invokevirtual 297, 3) := by decide +kernel
theorem dX11_drift_70 : decode cX11_drift 70 = .ok (.iinc 2 1, 3) := by decide +kernel
theorem dX11_drift_73 : decode cX11_drift 73 = .ok (.goto (-57), 3) := by decide +kernel
theorem dX11_drift_76 : decode cX11_drift 76 = .ok (.aload_n 0, 1) := by decide +kernel
theorem dX11_drift_77 : decode cX11_drift 77 = .ok (.invokevirtual 190, 3) := by decide +kernel
theorem dX11_drift_80 : decode cX11_drift 80 = .ok (.ireturn, 1) := by decide +kernel
theorem dX11_undo_0 : decode cX11_undo 0 = .ok (.aload_n 0, 1) := by decide +kernel
theorem dX11_undo_1 : decode cX11_undo 1 = .ok (.getfield 81, 3) := by decide +kernel
theorem dX11_undo_4 : decode cX11_undo 4 = .ok (.ifCond .ne 6, 3) := by decide +kernel
theorem dX11_undo_7 : decode cX11_undo 7 = .ok (.bipush (-4), 2) := by decide +kernel
theorem dX11_undo_9 : decode cX11_undo 9 = .ok (.ireturn, 1) := by decide +kernel
theorem dX11_undo_10 : decode cX11_undo 10 = .ok (.aload_n 0, 1) := by decide +kernel
theorem dX11_undo_11 : decode cX11_undo 11 = .ok (.dup, 1) := by decide +kernel
theorem dX11_undo_12 : decode cX11_undo 12 = .ok (.getfield 81, 3) := by decide +kernel
theorem dX11_undo_15 : decode cX11_undo 15 = .ok (.iconst 1, 1) := by decide +kernel
theorem dX11_undo_16 : decode cX11_undo 16 = .ok (.isub, 1) := by decide +kernel
theorem dX11_undo_17 : decode cX11_undo 17 = .ok (.putfield 81, 3) := by decide +kernel
theorem dX11_undo_20 : decode cX11_undo 20 = .ok (.aload_n 0, 1) := by decide +kernel
theorem dX11_undo_21 : decode cX11_undo 21 = .ok (.getfield 13, 3) := by decide +kernel
theorem dX11_undo_24 : decode cX11_undo 24 = .ok (.sipush 128, 3) := by decide +kernel
theorem dX11_undo_27 : decode cX11_undo 27 = .ok (.aload_n 0, 1) := by decide +kernel
theorem dX11_undo_28 : decode cX11_undo 28 = .ok (.getfield 81, 3) := by decide +kernel
theorem dX11_undo_31 : decode cX11_undo 31 = .ok (.imul, 1) := by decide +kernel
theorem dX11_undo_32 : decode cX11_undo 32 = .ok (.aload_n 0, 1) := by decide +kernel
theorem dX11_undo_33 : decode cX11_undo 33 = .ok (.getfield 7, 3) := by decide +kernel
theorem dX11_undo_36 : decode cX11_undo 36 = .ok (.iconst 0, 1) := by decide +kernel
theorem dX11_undo_37 : decode cX11_undo 37 = .ok (.sipush 128, 3) := by decide +kernel
theorem dX11_undo_40 : decode cX11_undo 40 = .ok (.invokestatic 84, 3) := by decide +kernel
theorem dX11_undo_43 : decode cX11_undo 43 = .ok (.aload_n 0, 1) := by decide +kernel
theorem dX11_undo_44 : decode cX11_undo 44 = .ok (.getfield 81, 3) := by decide +kernel
theorem dX11_undo_47 : decode cX11_undo 47 = .ok (.ireturn, 1) := by decide +kernel
theorem dX11_seed_0 : decode cX11_seed 0 = .ok (.iload_n 1, 1) := by decide +kernel
theorem dX11_seed_1 : decode cX11_seed 1 = .ok (.ifCond .ge 5, 3) := by decide +kernel
theorem dX11_seed_4 : decode cX11_seed 4 = .ok (.iconst (-1), 1) := by decide +kernel
theorem dX11_seed_5 : decode cX11_seed 5 = .ok (.ireturn, 1) := by decide +kernel
theorem dX11_seed_6 : decode cX11_seed 6 = .ok (.aload_n 0, 1) := by decide +kernel
theorem dX11_seed_7 : decode cX11_seed 7 = .ok (.getfield 7, 3) := by decide +kernel
theorem dX11_seed_10 : decode cX11_seed 10 = .ok (.bipush 127, 2) := by decide +kernel
theorem dX11_seed_12 : decode cX11_seed 12 = .ok (.iaload, 1) := by decide +kernel
theorem dX11_seed_13 : decode cX11_seed 13 = .ok (.istore_n 2, 1) := by decide +kernel
theorem dX11_seed_14 : decode cX11_seed 14 = .ok (.aload_n 0, 1) := by decide +kernel
theorem dX11_seed_15 : decode cX11_seed 15 = .ok (.getfield 7, 3) := by decide +kernel
theorem dX11_seed_18 : decode cX11_seed 18 = .ok (.bipush 127, 2) := by decide +kernel
theorem dX11_seed_20 : decode cX11_seed 20 = .ok (.iload_n 1, 1) := by decide +kernel
theorem dX11_seed_21 : decode cX11_seed 21 = .ok (.iastore, 1) := by decide +kernel
theorem dX11_seed_22 : decode cX11_seed 22 = .ok (.iload_n 2, 1) := by decide +kernel
theorem dX11_seed_23 : decode cX11_seed 23 = .ok (.ireturn, 1) := by decide +kernel
theorem dX11_image_0 : decode cX11_image 0 = .ok (.aload_n 0, 1) := by decide +kernel
theorem dX11_image_1 : decode cX11_image 1 = .ok (.getfield 7, 3) := by decide +kernel
theorem dX11_image_4 : decode cX11_image 4 = .ok (.iconst 0, 1) := by decide +kernel
theorem dX11_image_5 : decode cX11_image 5 = .ok (.aload_n 0, 1) := by decide +kernel
theorem dX11_image_6 : decode cX11_image 6 = .ok (.getfield 16, 3) := by decide +kernel
theorem dX11_image_9 : decode cX11_image 9 = .ok (.iconst 0, 1) := by decide +kernel
theorem dX11_image_10 : decode cX11_image 10 = .ok (.sipush 128, 3) := by decide +kernel
theorem dX11_image_13 : decode cX11_image 13 = .ok (.invokestatic 84, 3) := by decide +kernel
theorem dX11_image_16 : decode cX11_image 16 = .ok (.aload_n 0, 1) := by decide +kernel
theorem dX11_image_17 : decode cX11_image 17 = .ok (.getfield 13, 3) := by decide +kernel
theorem dX11_image_20 : decode cX11_image 20 = .ok (.iconst 0, 1) := by decide +kernel
theorem dX11_image_21 : decode cX11_image 21 = .ok (.aload_n 0, 1) := by decide +kernel
theorem dX11_image_22 : decode cX11_image 22 = .ok (.getfield 19, 3) := by decide +kernel
theorem dX11_image_25 : decode cX11_image 25 = .ok (.iconst 0, 1) := by decide +kernel
theorem dX11_image_26 : decode cX11_image 26 = .ok (.sipush 768, 3) := by decide +kernel
theorem dX11_image_29 : decode cX11_image 29 = .ok (.invokestatic 84, 3) := by decide +kernel
theorem dX11_image_32 : decode cX11_image 32 = .ok (.aload_n 0, 1) := by decide +kernel
theorem dX11_image_33 : decode cX11_image 33 = .ok (.aload_n 0, 1) := by decide +kernel
theorem dX11_image_34 : decode cX11_image 34 = .ok (.getfield 81, 3) := by decide +kernel
theorem dX11_image_37 : decode cX11_image 37 = .ok (.putfield 22, 3) := by decide +kernel
theorem dX11_image_40 : decode cX11_image 40 = .ok (.iconst 1, 1) := by decide +kernel
theorem dX11_image_41 : decode cX11_image 41 = .ok (.ireturn, 1) := by decide +kernel
theorem dX11_restore_0 : decode cX11_restore 0 = .ok (.aload_n 0, 1) := by decide +kernel
theorem dX11_restore_1 : decode cX11_restore 1 = .ok (.getfield 22, 3) := by decide +kernel
theorem dX11_restore_4 : decode cX11_restore 4 = .ok (.ifCond .ge 6, 3) := by decide +kernel
theorem dX11_restore_7 : decode cX11_restore 7 = .ok (.bipush (-4), 2) := by decide +kernel
theorem dX11_restore_9 : decode cX11_restore 9 = .ok (.ireturn, 1) := by decide +kernel
theorem dX11_restore_10 : decode cX11_restore 10 = .ok (.aload_n 0, 1) := by decide +kernel
theorem dX11_restore_11 : decode cX11_restore 11 = .ok (.getfield 16, 3) := by decide +kernel
theorem dX11_restore_14 : decode cX11_restore 14 = .ok (.iconst 0, 1) := by decide +kernel
theorem dX11_restore_15 : decode cX11_restore 15 = .ok (.aload_n 0, 1) := by decide +kernel
theorem dX11_restore_16 : decode cX11_restore 16 = .ok (.getfield 7, 3) := by decide +kernel
theorem dX11_restore_19 : decode cX11_restore 19 = .ok (.iconst 0, 1) := by decide +kernel
theorem dX11_restore_20 : decode cX11_restore 20 = .ok (.sipush 128, 3) := by decide +kernel
theorem dX11_restore_23 : decode cX11_restore 23 = .ok (.invokestatic 84, 3) := by decide +kernel
theorem dX11_restore_26 : decode cX11_restore 26 = .ok (.aload_n 0, 1) := by decide +kernel
theorem dX11_restore_27 : decode cX11_restore 27 = .ok (.getfield 19, 3) := by decide +kernel
theorem dX11_restore_30 : decode cX11_restore 30 = .ok (.iconst 0, 1) := by decide +kernel
theorem dX11_restore_31 : decode cX11_restore 31 = .ok (.aload_n 0, 1) := by decide +kernel
theorem dX11_restore_32 : decode cX11_restore 32 = .ok (.getfield 13, 3) := by decide +kernel
theorem dX11_restore_35 : decode cX11_restore 35 = .ok (.iconst 0, 1) := by decide +kernel
theorem dX11_restore_36 : decode cX11_restore 36 = .ok (.sipush 768, 3) := by decide +kernel
theorem dX11_restore_39 : decode cX11_restore 39 = .ok (.invokestatic 84, 3) := by decide +kernel
theorem dX11_restore_42 : decode cX11_restore 42 = .ok (.aload_n 0, 1) := by decide +kernel
theorem dX11_restore_43 : decode cX11_restore 43 = .ok (.aload_n 0, 1) := by decide +kernel
theorem dX11_restore_44 : decode cX11_restore 44 = .ok (.getfield 22, 3) := by decide +kernel
theorem dX11_restore_47 : decode cX11_restore 47 = .ok (.putfield 81, 3) := by decide +kernel
theorem dX11_restore_50 : decode cX11_restore 50 = .ok (.iconst 1, 1) := by decide +kernel
theorem dX11_restore_51 : decode cX11_restore 51 = .ok (.ireturn, 1) := by decide +kernel
theorem dX11_isSheet_0 : decode cX11_isSheet 0 = .ok (.iload_n 0, 1) := by decide +kernel
theorem dX11_isSheet_1 : decode cX11_isSheet 1 = .ok (.i2l, 1) := by decide +kernel
theorem dX11_isSheet_2 : decode cX11_isSheet 2 = .ok (.lconst 0, 1) := by decide +kernel
theorem dX11_isSheet_3 : decode cX11_isSheet 3 = .ok (.ldc2_w 104, 3) := by decide +kernel
theorem dX11_isSheet_6 : decode cX11_isSheet 6 = .ok (.invokestatic 88, 3) := by decide +kernel
theorem dX11_isSheet_9 : decode cX11_isSheet 9 = .ok (.ifCond .eq 19, 3) := by decide +kernel
theorem dX11_isSheet_12 : decode cX11_isSheet 12 = .ok (.iload_n 1, 1) := by decide +kernel
theorem dX11_isSheet_13 : decode cX11_isSheet 13 = .ok (.i2l, 1) := by decide +kernel
theorem dX11_isSheet_14 : decode cX11_isSheet 14 = .ok (.lconst 0, 1) := by decide +kernel
theorem dX11_isSheet_15 : decode cX11_isSheet 15 = .ok (.ldc2_w 104, 3) := by decide +kernel
theorem dX11_isSheet_18 : decode cX11_isSheet 18 = .ok (.invokestatic 88, 3) := by decide +kernel
theorem dX11_isSheet_21 : decode cX11_isSheet 21 = .ok (.ifCond .eq 7, 3) := by decide +kernel
theorem dX11_isSheet_24 : decode cX11_isSheet 24 = .ok (.iconst 1, 1) := by decide +kernel
theorem dX11_isSheet_25 : decode cX11_isSheet 25 = .ok (.goto 4, 3) := by decide +kernel
theorem dX11_isSheet_28 : decode cX11_isSheet 28 = .ok (.iconst 0, 1) := by decide +kernel
theorem dX11_isSheet_29 : decode cX11_isSheet 29 = .ok (.ireturn, 1) := by decide +kernel
theorem dX11_found_0 : decode cX11_found 0 = .ok (.aload_n 0, 1) := by decide +kernel
theorem dX11_found_1 : decode cX11_found 1 = .ok (.getfield 29, 3) := by decide +kernel
theorem dX11_found_4 : decode cX11_found 4 = .ok (.iload_n 1, 1) := by decide +kernel
theorem dX11_found_5 : decode cX11_found 5 = .ok (.iaload, 1) := by decide +kernel
theorem dX11_found_6 : decode cX11_found 6 = .ok (.ifCond .ge 6, 3) := by decide +kernel
theorem dX11_found_9 : decode cX11_found 9 = .ok (.bipush (-11), 2) := by decide +kernel
theorem dX11_found_11 : decode cX11_found 11 = .ok (.ireturn, 1) := by decide +kernel
theorem dX11_found_12 : decode cX11_found 12 = .ok (.aload_n 0, 1) := by decide +kernel
theorem dX11_found_13 : decode cX11_found 13 = .ok (.getfield 29, 3) := by decide +kernel
theorem dX11_found_16 : decode cX11_found 16 = .ok (.iload_n 1, 1) := by decide +kernel
theorem dX11_found_17 : decode cX11_found 17 = .ok (.iaload, 1) := by decide +kernel
theorem dX11_found_18 : decode cX11_found 18 = .ok (.iload_n 2, 1) := by decide +kernel
theorem dX11_found_19 : decode cX11_found 19 = .ok (.if_icmp .eq 6, 3) := by decide +kernel
theorem dX11_found_22 : decode cX11_found 22 = .ok (.bipush (-12), 2) := by decide +kernel
theorem dX11_found_24 : decode cX11_found 24 = .ok (.ireturn, 1) := by decide +kernel
theorem dX11_found_25 : decode cX11_found 25 = .ok (.iload_n 3, 1) := by decide +kernel
theorem dX11_found_26 : decode cX11_found 26 = .ok (.ifCond .lt 16, 3) := by decide +kernel
theorem dX11_found_29 : decode cX11_found 29 = .ok (.iload_n 3, 1) := by decide +kernel
theorem dX11_found_30 : decode cX11_found 30 = .ok (.aload_n 0, 1) := by decide +kernel
theorem dX11_found_31 : decode cX11_found 31 = .ok (.getfield 32, 3) := by decide +kernel
theorem dX11_found_34 : decode cX11_found 34 = .ok (.iload_n 1, 1) := by decide +kernel
theorem dX11_found_35 : decode cX11_found 35 = .ok (.iaload, 1) := by decide +kernel
theorem dX11_found_36 : decode cX11_found 36 = .ok (.iload 4, 2) := by decide +kernel
theorem dX11_found_38 : decode cX11_found 38 = .ok (.isub, 1) := by decide +kernel
theorem dX11_found_39 : decode cX11_found 39 = .ok (.if_icmp .le 8, 3) := by decide +kernel
theorem dX11_found_42 : decode cX11_found 42 = .ok (.bipush (-13), 2) := by decide +kernel
theorem dX11_found_44 : decode cX11_found 44 = .ok (.goto 4, 3) := by decide +kernel
theorem dX11_found_47 : decode cX11_found 47 = .ok (.iconst 0, 1) := by decide +kernel
theorem dX11_found_48 : decode cX11_found 48 = .ok (.ireturn, 1) := by decide +kernel
theorem dX11_tried_0 : decode cX11_tried 0 = .ok (.iload_n 1, 1) := by decide +kernel
theorem dX11_tried_1 : decode cX11_tried 1 = .ok (.iload_n 2, 1) := by decide +kernel
theorem dX11_tried_2 : decode cX11_tried 2 = .ok (.invokestatic 301, 3) := by decide +kernel
theorem dX11_tried_5 : decode cX11_tried 5 = .ok (.ifCond .ne 5, 3) := by decide +kernel
theorem dX11_tried_8 : decode cX11_tried 8 = .ok (.iconst (-1), 1) := by decide +kernel
theorem dX11_tried_9 : decode cX11_tried 9 = .ok (.ireturn, 1) := by decide +kernel
theorem dX11_tried_10 : decode cX11_tried 10 = .ok (.aload_n 0, 1) := by decide +kernel
theorem dX11_tried_11 : decode cX11_tried 11 = .ok (.iload_n 1, 1) := by decide +kernel
theorem dX11_tried_12 : decode cX11_tried 12 = .ok (.iload_n 2, 1) := by decide +kernel
theorem dX11_tried_13 : decode cX11_tried 13 = .ok (.iload_n 3, 1) := by decide +kernel
theorem dX11_tried_14 : decode cX11_tried 14 = .ok (.aload_n 0, 1) := by decide +kernel
theorem dX11_tried_15 : decode cX11_tried 15 = .ok (.getfield 7, 3) := by decide +kernel
theorem dX11_tried_18 : decode cX11_tried 18 = .ok (.iconst 0, 1) := by decide +kernel
theorem dX11_tried_19 : decode cX11_tried 19 = .ok (.iaload, 1) := by decide +kernel
theorem dX11_tried_20 : decode cX11_tried 20 = .ok (.iconst 1, 1) := by decide +kernel
theorem dX11_tried_21 : decode cX11_tried 21 = .ok (.isub, 1) := by decide +kernel
theorem dX11_tried_22 : decode cX11_tried 22 = .ok (.invokevirtual 304, 3) := by decide +kernel
theorem dX11_tried_25 : decode cX11_tried 25 = .ok (.istore 4, 2) := by decide +kernel
theorem dX11_tried_27 : decode cX11_tried 27 = .ok (.iload 4, 2) := by decide +kernel
theorem dX11_tried_29 : decode cX11_tried 29 = .ok (.ifCond .eq 6, 3) := by decide +kernel
theorem dX11_tried_32 : decode cX11_tried 32 = .ok (.iload 4, 2) := by decide +kernel
theorem dX11_tried_34 : decode cX11_tried 34 = .ok (.ireturn, 1) := by decide +kernel
theorem dX11_tried_35 : decode cX11_tried 35 = .ok (.iconst 1, 1) := by decide +kernel
theorem dX11_tried_36 : decode cX11_tried 36 = .ok (.istore 5, 2) := by decide +kernel
theorem dX11_tried_38 : decode cX11_tried 38 = .ok (.iload 5, 2) := by decide +kernel
theorem dX11_tried_40 : decode cX11_tried 40 = .ok (.aload_n 0, 1) := by decide +kernel
theorem dX11_tried_41 : decode cX11_tried 41 = .ok (.getfield 7, 3) := by decide +kernel
theorem dX11_tried_44 : decode cX11_tried 44 = .ok (.iconst 0, 1) := by decide +kernel
theorem dX11_tried_45 : decode cX11_tried 45 = .ok (.iaload, 1) := by decide +kernel
theorem dX11_tried_46 : decode cX11_tried 46 = .ok (.if_icmp .ge 67, 3) := by decide +kernel
theorem dX11_tried_49 : decode cX11_tried 49 = .ok (.aload_n 0, 1) := by decide +kernel
theorem dX11_tried_50 : decode cX11_tried 50 = .ok (.getfield 35, 3) := by decide +kernel
theorem dX11_tried_53 : decode cX11_tried 53 = .ok (.bipush 24, 2) := by decide +kernel
theorem dX11_tried_55 : decode cX11_tried 55 = .ok (.iload_n 1, 1) := by decide +kernel
theorem dX11_tried_56 : decode cX11_tried 56 = .ok (.imul, 1) := by decide +kernel
theorem dX11_tried_57 : decode cX11_tried 57 = .ok (.iload_n 3, 1) := by decide +kernel
theorem dX11_tried_58 : decode cX11_tried 58 = .ok (.iadd, 1) := by decide +kernel
theorem dX11_tried_59 : decode cX11_tried 59 = .ok (.iload 5, 2) := by decide +kernel
theorem dX11_tried_61 : decode cX11_tried 61 = .ok (.iadd, 1) := by decide +kernel
theorem dX11_tried_62 : decode cX11_tried 62 = .ok (.iconst 1, 1) := by decide +kernel
theorem dX11_tried_63 : decode cX11_tried 63 = .ok (.isub, 1) := by decide +kernel
theorem dX11_tried_64 : decode cX11_tried 64 = .ok (.laload, 1) := by decide +kernel
theorem dX11_tried_65 : decode cX11_tried 65 = .ok (.lstore 6, 2) := by decide +kernel
theorem dX11_tried_67 : decode cX11_tried 67 = .ok (.lload 6, 2) := by decide +kernel
theorem dX11_tried_69 : decode cX11_tried 69 = .ok (.lconst 0, 1) := by decide +kernel
theorem dX11_tried_70 : decode cX11_tried 70 = .ok (.aload_n 0, 1) := by decide +kernel
theorem dX11_tried_71 : decode cX11_tried 71 = .ok (.getfield 7, 3) := by decide +kernel
theorem dX11_tried_74 : decode cX11_tried 74 = .ok (.iconst 0, 1) := by decide +kernel
theorem dX11_tried_75 : decode cX11_tried 75 = .ok (.iaload, 1) := by decide +kernel
theorem dX11_tried_76 : decode cX11_tried 76 = .ok (.iconst 1, 1) := by decide +kernel
theorem dX11_tried_77 : decode cX11_tried 77 = .ok (.isub, 1) := by decide +kernel
theorem dX11_tried_78 : decode cX11_tried 78 = .ok (.i2l, 1) := by decide +kernel
theorem dX11_tried_79 : decode cX11_tried 79 = .ok (.invokestatic 88, 3) := by decide +kernel
theorem dX11_tried_82 : decode cX11_tried 82 = .ok (.ifCond .ne 15, 3) := by decide +kernel
theorem dX11_tried_85 : decode cX11_tried 85 = .ok (.lload 6, 2) := by decide +kernel
theorem dX11_tried_87 : decode cX11_tried 87 = .ok (.ldc2_w 113, 3) := by decide +kernel
theorem dX11_tried_90 : decode cX11_tried 90 = .ok (.lcmp, 1) := by decide +kernel
theorem dX11_tried_91 : decode cX11_tried 91 = .ok (.ifCond .eq 6, 3) := by decide +kernel
theorem dX11_tried_94 : decode cX11_tried 94 = .ok (.bipush (-2), 2) := by decide +kernel
theorem dX11_tried_96 : decode cX11_tried 96 = .ok (.ireturn, 1) := by decide +kernel
theorem dX11_tried_97 : decode cX11_tried 97 = .ok (.aload_n 0, 1) := by decide +kernel
theorem dX11_tried_98 : decode cX11_tried 98 = .ok (.getfield 54, 3) := by decide +kernel
theorem dX11_tried_101 : decode cX11_tried 101 = .ok (.iload 5, 2) := by decide +kernel
theorem dX11_tried_103 : decode cX11_tried 103 = .ok (.lload 6, 2) := by decide +kernel
theorem dX11_tried_105 : decode cX11_tried 105 = .ok (.l2i, 1) := by decide +kernel
theorem dX11_tried_106 : decode cX11_tried 106 = .ok (.iastore, 1) := by decide +kernel
theorem dX11_tried_107 : decode cX11_tried 107 = .ok (.iinc 5 1, 3) := by decide +kernel
theorem dX11_tried_110 : decode cX11_tried 110 = .ok (.goto (-72), 3) := by decide +kernel
theorem dX11_tried_113 : decode cX11_tried 113 = .ok (.aload_n 0, 1) := by decide +kernel
theorem dX11_tried_114 : decode cX11_tried 114 = .ok (.invokevirtual 214, 3) := by decide +kernel
theorem dX11_tried_117 : decode cX11_tried 117 = .ok (.pop, 1) := by decide +kernel
theorem dX11_tried_118 : decode cX11_tried 118 = .ok (.aload_n 0, 1) := by decide +kernel
theorem dX11_tried_119 : decode cX11_tried 119 = .ok (.invokevirtual 193, 3) := by decide +kernel
theorem dX11_tried_122 : decode cX11_tried 122 = .ok (.ireturn, 1) := by decide +kernel
theorem dX11_film_0 : decode cX11_film 0 = .ok (.iload_n 1, 1) := by decide +kernel
theorem dX11_film_1 : decode cX11_film 1 = .ok (.iload_n 2, 1) := by decide +kernel
theorem dX11_film_2 : decode cX11_film 2 = .ok (.invokestatic 301, 3) := by decide +kernel
theorem dX11_film_5 : decode cX11_film 5 = .ok (.ifCond .ne 5, 3) := by decide +kernel
theorem dX11_film_8 : decode cX11_film 8 = .ok (.iconst (-1), 1) := by decide +kernel
theorem dX11_film_9 : decode cX11_film 9 = .ok (.ireturn, 1) := by decide +kernel
theorem dX11_film_10 : decode cX11_film 10 = .ok (.aload_n 0, 1) := by decide +kernel
theorem dX11_film_11 : decode cX11_film 11 = .ok (.iload_n 1, 1) := by decide +kernel
theorem dX11_film_12 : decode cX11_film 12 = .ok (.iload_n 2, 1) := by decide +kernel
theorem dX11_film_13 : decode cX11_film 13 = .ok (.iload_n 3, 1) := by decide +kernel
theorem dX11_film_14 : decode cX11_film 14 = .ok (.aload_n 0, 1) := by decide +kernel
theorem dX11_film_15 : decode cX11_film 15 = .ok (.getfield 7, 3) := by decide +kernel
theorem dX11_film_18 : decode cX11_film 18 = .ok (.iconst 0, 1) := by decide +kernel
theorem dX11_film_19 : decode cX11_film 19 = .ok (.iaload, 1) := by decide +kernel
theorem dX11_film_20 : decode cX11_film 20 = .ok (.iconst 1, 1) := by decide +kernel
theorem dX11_film_21 : decode cX11_film 21 = .ok (.isub, 1) := by decide +kernel
theorem dX11_film_22 : decode cX11_film 22 = .ok (.invokevirtual 304, 3) := by decide +kernel
theorem dX11_film_25 : decode cX11_film 25 = .ok (.istore 4, 2) := by decide +kernel
theorem dX11_film_27 : decode cX11_film 27 = .ok (.iload 4, 2) := by decide +kernel
theorem dX11_film_29 : decode cX11_film 29 = .ok (.ifCond .eq 6, 3) := by decide +kernel
theorem dX11_film_32 : decode cX11_film 32 = .ok (.iload 4, 2) := by decide +kernel
theorem dX11_film_34 : decode cX11_film 34 = .ok (.ireturn, 1) := by decide +kernel
theorem dX11_film_35 : decode cX11_film 35 = .ok (.iconst 1, 1) := by decide +kernel
theorem dX11_film_36 : decode cX11_film 36 = .ok (.istore 5, 2) := by decide +kernel
theorem dX11_film_38 : decode cX11_film 38 = .ok (.iload 5, 2) := by decide +kernel
theorem dX11_film_40 : decode cX11_film 40 = .ok (.aload_n 0, 1) := by decide +kernel
theorem dX11_film_41 : decode cX11_film 41 = .ok (.getfield 7, 3) := by decide +kernel
theorem dX11_film_44 : decode cX11_film 44 = .ok (.iconst 0, 1) := by decide +kernel
theorem dX11_film_45 : decode cX11_film 45 = .ok (.iaload, 1) := by decide +kernel
theorem dX11_film_46 : decode cX11_film 46 = .ok (.if_icmp .ge 56, 3) := by decide +kernel
theorem dX11_film_49 : decode cX11_film 49 = .ok (.aload_n 0, 1) := by decide +kernel
theorem dX11_film_50 : decode cX11_film 50 = .ok (.getfield 7, 3) := by decide +kernel
theorem dX11_film_53 : decode cX11_film 53 = .ok (.bipush 121, 2) := by decide +kernel
theorem dX11_film_55 : decode cX11_film 55 = .ok (.iload 5, 2) := by decide +kernel
theorem dX11_film_57 : decode cX11_film 57 = .ok (.iadd, 1) := by decide +kernel
theorem dX11_film_58 : decode cX11_film 58 = .ok (.iaload, 1) := by decide +kernel
theorem dX11_film_59 : decode cX11_film 59 = .ok (.istore 6, 2) := by decide +kernel
theorem dX11_film_61 : decode cX11_film 61 = .ok (.aload_n 0, 1) := by decide +kernel
theorem dX11_film_62 : decode cX11_film 62 = .ok (.getfield 35, 3) := by decide +kernel
theorem dX11_film_65 : decode cX11_film 65 = .ok (.bipush 24, 2) := by decide +kernel
theorem dX11_film_67 : decode cX11_film 67 = .ok (.iload_n 1, 1) := by decide +kernel
theorem dX11_film_68 : decode cX11_film 68 = .ok (.imul, 1) := by decide +kernel
theorem dX11_film_69 : decode cX11_film 69 = .ok (.iload_n 3, 1) := by decide +kernel
theorem dX11_film_70 : decode cX11_film 70 = .ok (.iadd, 1) := by decide +kernel
theorem dX11_film_71 : decode cX11_film 71 = .ok (.iload 5, 2) := by decide +kernel
theorem dX11_film_73 : decode cX11_film 73 = .ok (.iadd, 1) := by decide +kernel
theorem dX11_film_74 : decode cX11_film 74 = .ok (.iconst 1, 1) := by decide +kernel
theorem dX11_film_75 : decode cX11_film 75 = .ok (.isub, 1) := by decide +kernel
theorem dX11_film_76 : decode cX11_film 76 = .ok (.iload 6, 2) := by decide +kernel
theorem dX11_film_78 : decode cX11_film 78 = .ok (.bipush (-4), 2) := by decide +kernel
theorem dX11_film_80 : decode cX11_film 80 = .ok (.if_icmp .ne 9, 3) := by decide +kernel
theorem dX11_film_83 : decode cX11_film 83 = .ok (.ldc2_w 113, 3) := by decide +kernel
theorem dX11_film_86 : decode cX11_film 86 = .ok (.goto 9, 3) := by decide +kernel
theorem dX11_film_89 : decode cX11_film 89 = .ok (.iload 6, 2) := by decide +kernel
theorem dX11_film_91 : decode cX11_film 91 = .ok (.invokestatic 144, 3) := by decide +kernel
theorem dX11_film_94 : decode cX11_film 94 = .ok (.i2l, 1) := by decide +kernel
theorem dX11_film_95 : decode cX11_film 95 = .ok (.lastore, 1) := by decide +kernel
theorem dX11_film_96 : decode cX11_film 96 = .ok (.iinc 5 1, 3) := by decide +kernel
theorem dX11_film_99 : decode cX11_film 99 = .ok (.goto (-61), 3) := by decide +kernel
theorem dX11_film_102 : decode cX11_film 102 = .ok (.aload_n 0, 1) := by decide +kernel
theorem dX11_film_103 : decode cX11_film 103 = .ok (.getfield 7, 3) := by decide +kernel
theorem dX11_film_106 : decode cX11_film 106 = .ok (.iconst 0, 1) := by decide +kernel
theorem dX11_film_107 : decode cX11_film 107 = .ok (.iaload, 1) := by decide +kernel
theorem dX11_film_108 : decode cX11_film 108 = .ok (.iconst 1, 1) := by decide +kernel
theorem dX11_film_109 : decode cX11_film 109 = .ok (.isub, 1) := by decide +kernel
theorem dX11_film_110 : decode cX11_film 110 = .ok (.ireturn, 1) := by decide +kernel
theorem dX11_lowest_0 : decode cX11_lowest 0 = .ok (.iload_n 2, 1) := by decide +kernel
theorem dX11_lowest_1 : decode cX11_lowest 1 = .ok (.ifCond .ne 13, 3) := by decide +kernel
theorem dX11_lowest_4 : decode cX11_lowest 4 = .ok (.lload_n 0, 1) := by decide +kernel
theorem dX11_lowest_5 : decode cX11_lowest 5 = .ok (.bipush 56, 2) := by decide +kernel
theorem dX11_lowest_7 : decode cX11_lowest 7 = .ok (.lshl, 1) := by decide +kernel
theorem dX11_lowest_8 : decode cX11_lowest 8 = .ok (.bipush 56, 2) := by decide +kernel
theorem dX11_lowest_10 : decode cX11_lowest 10 = .ok (.lshr, 1) := by decide +kernel
theorem dX11_lowest_11 : decode cX11_lowest 11 = .ok (.goto 34, 3) := by decide +kernel
theorem dX11_lowest_14 : decode cX11_lowest 14 = .ok (.iload_n 2, 1) := by decide +kernel
theorem dX11_lowest_15 : decode cX11_lowest 15 = .ok (.iconst 1, 1) := by decide +kernel
theorem dX11_lowest_16 : decode cX11_lowest 16 = .ok (.if_icmp .ne 13, 3) := by decide +kernel
theorem dX11_lowest_19 : decode cX11_lowest 19 = .ok (.lload_n 0, 1) := by decide +kernel
theorem dX11_lowest_20 : decode cX11_lowest 20 = .ok (.bipush 48, 2) := by decide +kernel
theorem dX11_lowest_22 : decode cX11_lowest 22 = .ok (.lshl, 1) := by decide +kernel
theorem dX11_lowest_23 : decode cX11_lowest 23 = .ok (.bipush 48, 2) := by decide +kernel
theorem dX11_lowest_25 : decode cX11_lowest 25 = .ok (.lshr, 1) := by decide +kernel
theorem dX11_lowest_26 : decode cX11_lowest 26 = .ok (.goto 19, 3) := by decide +kernel
theorem dX11_lowest_29 : decode cX11_lowest 29 = .ok (.iload_n 2, 1) := by decide +kernel
theorem dX11_lowest_30 : decode cX11_lowest 30 = .ok (.iconst 2, 1) := by decide +kernel
theorem dX11_lowest_31 : decode cX11_lowest 31 = .ok (.if_icmp .ne 13, 3) := by decide +kernel
theorem dX11_lowest_34 : decode cX11_lowest 34 = .ok (.lload_n 0, 1) := by decide +kernel
theorem dX11_lowest_35 : decode cX11_lowest 35 = .ok (.bipush 32, 2) := by decide +kernel
theorem dX11_lowest_37 : decode cX11_lowest 37 = .ok (.lshl, 1) := by decide +kernel
theorem dX11_lowest_38 : decode cX11_lowest 38 = .ok (.bipush 32, 2) := by decide +kernel
theorem dX11_lowest_40 : decode cX11_lowest 40 = .ok (.lshr, 1) := by decide +kernel
theorem dX11_lowest_41 : decode cX11_lowest 41 = .ok (.goto 4, 3) := by decide +kernel
theorem dX11_lowest_44 : decode cX11_lowest 44 = .ok (.lload_n 0, 1) := by decide +kernel
theorem dX11_lowest_45 : decode cX11_lowest 45 = .ok (.lreturn, 1) := by decide +kernel
theorem dX11_sheet_0 : decode cX11_sheet 0 = .ok (.iload_n 1, 1) := by decide +kernel
theorem dX11_sheet_1 : decode cX11_sheet 1 = .ok (.iload_n 2, 1) := by decide +kernel
theorem dX11_sheet_2 : decode cX11_sheet 2 = .ok (.invokestatic 301, 3) := by decide +kernel
theorem dX11_sheet_5 : decode cX11_sheet 5 = .ok (.ifCond .eq 9, 3) := by decide +kernel
theorem dX11_sheet_8 : decode cX11_sheet 8 = .ok (.iload_n 3, 1) := by decide +kernel
theorem dX11_sheet_9 : decode cX11_sheet 9 = .ok (.bipush 24, 2) := by decide +kernel
theorem dX11_sheet_11 : decode cX11_sheet 11 = .ok (.if_icmp .le 5, 3) := by decide +kernel
theorem dX11_sheet_14 : decode cX11_sheet 14 = .ok (.iconst (-1), 1) := by decide +kernel
theorem dX11_sheet_15 : decode cX11_sheet 15 = .ok (.ireturn, 1) := by decide +kernel
theorem dX11_sheet_16 : decode cX11_sheet 16 = .ok (.iload_n 3, 1) := by decide +kernel
theorem dX11_sheet_17 : decode cX11_sheet 17 = .ok (.ifCond .ge 6, 3) := by decide +kernel
theorem dX11_sheet_20 : decode cX11_sheet 20 = .ok (.bipush (-14), 2) := by decide +kernel
theorem dX11_sheet_22 : decode cX11_sheet 22 = .ok (.ireturn, 1) := by decide +kernel
theorem dX11_sheet_23 : decode cX11_sheet 23 = .ok (.aload_n 0, 1) := by decide +kernel
theorem dX11_sheet_24 : decode cX11_sheet 24 = .ok (.getfield 29, 3) := by decide +kernel
theorem dX11_sheet_27 : decode cX11_sheet 27 = .ok (.iload_n 1, 1) := by decide +kernel
theorem dX11_sheet_28 : decode cX11_sheet 28 = .ok (.iload_n 2, 1) := by decide +kernel
theorem dX11_sheet_29 : decode cX11_sheet 29 = .ok (.iastore, 1) := by decide +kernel
theorem dX11_sheet_30 : decode cX11_sheet 30 = .ok (.aload_n 0, 1) := by decide +kernel
theorem dX11_sheet_31 : decode cX11_sheet 31 = .ok (.getfield 32, 3) := by decide +kernel
theorem dX11_sheet_34 : decode cX11_sheet 34 = .ok (.iload_n 1, 1) := by decide +kernel
theorem dX11_sheet_35 : decode cX11_sheet 35 = .ok (.iload_n 3, 1) := by decide +kernel
theorem dX11_sheet_36 : decode cX11_sheet 36 = .ok (.iastore, 1) := by decide +kernel
theorem dX11_sheet_37 : decode cX11_sheet 37 = .ok (.iconst 0, 1) := by decide +kernel
theorem dX11_sheet_38 : decode cX11_sheet 38 = .ok (.istore 4, 2) := by decide +kernel
theorem dX11_sheet_40 : decode cX11_sheet 40 = .ok (.iload 4, 2) := by decide +kernel
theorem dX11_sheet_42 : decode cX11_sheet 42 = .ok (.iload_n 3, 1) := by decide +kernel
theorem dX11_sheet_43 : decode cX11_sheet 43 = .ok (.if_icmp .ge 22, 3) := by decide +kernel
theorem dX11_sheet_46 : decode cX11_sheet 46 = .ok (.aload_n 0, 1) := by decide +kernel
theorem dX11_sheet_47 : decode cX11_sheet 47 = .ok (.getfield 35, 3) := by decide +kernel
theorem dX11_sheet_50 : decode cX11_sheet 50 = .ok (.bipush 24, 2) := by decide +kernel
theorem dX11_sheet_52 : decode cX11_sheet 52 = .ok (.iload_n 1, 1) := by decide +kernel
theorem dX11_sheet_53 : decode cX11_sheet 53 = .ok (.imul, 1) := by decide +kernel
theorem dX11_sheet_54 : decode cX11_sheet 54 = .ok (.iload 4, 2) := by decide +kernel
theorem dX11_sheet_56 : decode cX11_sheet 56 = .ok (.iadd, 1) := by decide +kernel
theorem dX11_sheet_57 : decode cX11_sheet 57 = .ok (.lconst 0, 1) := by decide +kernel
theorem dX11_sheet_58 : decode cX11_sheet 58 = .ok (.lastore, 1) := by decide +kernel
theorem dX11_sheet_59 : decode cX11_sheet 59 = .ok (.iinc 4 1, 3) := by decide +kernel
theorem dX11_sheet_62 : decode cX11_sheet 62 = .ok (.goto (-22), 3) := by decide +kernel
theorem dX11_sheet_65 : decode cX11_sheet 65 = .ok (.iload_n 3, 1) := by decide +kernel
theorem dX11_sheet_66 : decode cX11_sheet 66 = .ok (.ireturn, 1) := by decide +kernel
theorem dX11_drop_0 : decode cX11_drop 0 = .ok (.iload_n 1, 1) := by decide +kernel
theorem dX11_drop_1 : decode cX11_drop 1 = .ok (.i2l, 1) := by decide +kernel
theorem dX11_drop_2 : decode cX11_drop 2 = .ok (.lconst 0, 1) := by decide +kernel
theorem dX11_drop_3 : decode cX11_drop 3 = .ok (.ldc2_w 104, 3) := by decide +kernel
theorem dX11_drop_6 : decode cX11_drop 6 = .ok (.invokestatic 88, 3) := by decide +kernel
theorem dX11_drop_9 : decode cX11_drop 9 = .ok (.ifCond .ne 5, 3) := by decide +kernel
theorem dX11_drop_12 : decode cX11_drop 12 = .ok (.iconst (-1), 1) := by decide +kernel
theorem dX11_drop_13 : decode cX11_drop 13 = .ok (.ireturn, 1) := by decide +kernel
theorem dX11_drop_14 : decode cX11_drop 14 = .ok (.aload_n 0, 1) := by decide +kernel
theorem dX11_drop_15 : decode cX11_drop 15 = .ok (.getfield 29, 3) := by decide +kernel
theorem dX11_drop_18 : decode cX11_drop 18 = .ok (.iload_n 1, 1) := by decide +kernel
theorem dX11_drop_19 : decode cX11_drop 19 = .ok (.iaload, 1) := by decide +kernel
theorem dX11_drop_20 : decode cX11_drop 20 = .ok (.ifCond .ge 6, 3) := by decide +kernel
theorem dX11_drop_23 : decode cX11_drop 23 = .ok (.bipush (-11), 2) := by decide +kernel
theorem dX11_drop_25 : decode cX11_drop 25 = .ok (.ireturn, 1) := by decide +kernel
theorem dX11_drop_26 : decode cX11_drop 26 = .ok (.aload_n 0, 1) := by decide +kernel
theorem dX11_drop_27 : decode cX11_drop 27 = .ok (.getfield 29, 3) := by decide +kernel
theorem dX11_drop_30 : decode cX11_drop 30 = .ok (.iload_n 1, 1) := by decide +kernel
theorem dX11_drop_31 : decode cX11_drop 31 = .ok (.bipush (-4), 2) := by decide +kernel
theorem dX11_drop_33 : decode cX11_drop 33 = .ok (.iastore, 1) := by decide +kernel
theorem dX11_drop_34 : decode cX11_drop 34 = .ok (.aload_n 0, 1) := by decide +kernel
theorem dX11_drop_35 : decode cX11_drop 35 = .ok (.getfield 32, 3) := by decide +kernel
theorem dX11_drop_38 : decode cX11_drop 38 = .ok (.iload_n 1, 1) := by decide +kernel
theorem dX11_drop_39 : decode cX11_drop 39 = .ok (.iaload, 1) := by decide +kernel
theorem dX11_drop_40 : decode cX11_drop 40 = .ok (.ireturn, 1) := by decide +kernel
theorem dX11_item_0 : decode cX11_item 0 = .ok (.iload_n 1, 1) := by decide +kernel
theorem dX11_item_1 : decode cX11_item 1 = .ok (.iload_n 2, 1) := by decide +kernel
theorem dX11_item_2 : decode cX11_item 2 = .ok (.invokestatic 301, 3) := by decide +kernel
theorem dX11_item_5 : decode cX11_item 5 = .ok (.ifCond .ne 5, 3) := by decide +kernel
theorem dX11_item_8 : decode cX11_item 8 = .ok (.iconst (-1), 1) := by decide +kernel
theorem dX11_item_9 : decode cX11_item 9 = .ok (.ireturn, 1) := by decide +kernel
theorem dX11_item_10 : decode cX11_item 10 = .ok (.aload_n 0, 1) := by decide +kernel
theorem dX11_item_11 : decode cX11_item 11 = .ok (.iload_n 1, 1) := by decide +kernel
theorem dX11_item_12 : decode cX11_item 12 = .ok (.iload_n 2, 1) := by decide +kernel
theorem dX11_item_13 : decode cX11_item 13 = .ok (.iload_n 3, 1) := by decide +kernel
theorem dX11_item_14 : decode cX11_item 14 = .ok (.iconst 1, 1) := by decide +kernel
theorem dX11_item_15 : decode cX11_item 15 = .ok (.invokevirtual 304, 3) := by decide +kernel
theorem dX11_item_18 : decode cX11_item 18 = .ok (.istore 6, 2) := by decide +kernel
theorem dX11_item_20 : decode cX11_item 20 = .ok (.iload 6, 2) := by decide +kernel
theorem dX11_item_22 : decode cX11_item 22 = .ok (.ifCond .eq 6, 3) := by decide +kernel
theorem dX11_item_25 : decode cX11_item 25 = .ok (.iload 6, 2) := by decide +kernel
theorem dX11_item_27 : decode cX11_item 27 = .ok (.ireturn, 1) := by decide +kernel
theorem dX11_item_28 : decode cX11_item 28 = .ok (.aload_n 0, 1) := by decide +kernel
theorem dX11_item_29 : decode cX11_item 29 = .ok (.getfield 35, 3) := by decide +kernel
theorem dX11_item_32 : decode cX11_item 32 = .ok (.bipush 24, 2) := by decide +kernel
theorem dX11_item_34 : decode cX11_item 34 = .ok (.iload_n 1, 1) := by decide +kernel
theorem dX11_item_35 : decode cX11_item 35 = .ok (.imul, 1) := by decide +kernel
theorem dX11_item_36 : decode cX11_item 36 = .ok (.iload_n 3, 1) := by decide +kernel
theorem dX11_item_37 : decode cX11_item 37 = .ok (.iadd, 1) := by decide +kernel
theorem dX11_item_38 : decode cX11_item 38 = .ok (.lload 4, 2) := by decide +kernel
theorem dX11_item_40 : decode cX11_item 40 = .ok (.iload_n 2, 1) := by decide +kernel
theorem dX11_item_41 : decode cX11_item 41 = .ok (.invokestatic 308, 3) := by decide +kernel
theorem dX11_item_44 : decode cX11_item 44 = .ok (.lastore, 1) := by decide +kernel
theorem dX11_item_45 : decode cX11_item 45 = .ok (.iconst 1, 1) := by decide +kernel
theorem dX11_item_46 : decode cX11_item 46 = .ok (.ireturn, 1) := by decide +kernel
theorem dX11_copy_0 : decode cX11_copy 0 = .ok (.iload_n 1, 1) := by decide +kernel
theorem dX11_copy_1 : decode cX11_copy 1 = .ok (.i2l, 1) := by decide +kernel
theorem dX11_copy_2 : decode cX11_copy 2 = .ok (.lconst 0, 1) := by decide +kernel
theorem dX11_copy_3 : decode cX11_copy 3 = .ok (.ldc2_w 104, 3) := by decide +kernel
theorem dX11_copy_6 : decode cX11_copy 6 = .ok (.invokestatic 88, 3) := by decide +kernel
theorem dX11_copy_9 : decode cX11_copy 9 = .ok (.ifCond .eq 15, 3) := by decide +kernel
theorem dX11_copy_12 : decode cX11_copy 12 = .ok (.iload_n 3, 1) := by decide +kernel
theorem dX11_copy_13 : decode cX11_copy 13 = .ok (.i2l, 1) := by decide +kernel
theorem dX11_copy_14 : decode cX11_copy 14 = .ok (.lconst 0, 1) := by decide +kernel
theorem dX11_copy_15 : decode cX11_copy 15 = .ok (.ldc2_w 104, 3) := by decide +kernel
theorem dX11_copy_18 : decode cX11_copy 18 = .ok (.invokestatic 88, 3) := by decide +kernel
theorem dX11_copy_21 : decode cX11_copy 21 = .ok (.ifCond .ne 5, 3) := by decide +kernel
theorem dX11_copy_24 : decode cX11_copy 24 = .ok (.iconst (-1), 1) := by decide +kernel
theorem dX11_copy_25 : decode cX11_copy 25 = .ok (.ireturn, 1) := by decide +kernel
theorem dX11_copy_26 : decode cX11_copy 26 = .ok (.aload_n 0, 1) := by decide +kernel
theorem dX11_copy_27 : decode cX11_copy 27 = .ok (.getfield 29, 3) := by decide +kernel
theorem dX11_copy_30 : decode cX11_copy 30 = .ok (.iload_n 1, 1) := by decide +kernel
theorem dX11_copy_31 : decode cX11_copy 31 = .ok (.iaload, 1) := by decide +kernel
theorem dX11_copy_32 : decode cX11_copy 32 = .ok (.ifCond .lt 12, 3) := by decide +kernel
theorem dX11_copy_35 : decode cX11_copy 35 = .ok (.aload_n 0, 1) := by decide +kernel
theorem dX11_copy_36 : decode cX11_copy 36 = .ok (.getfield 29, 3) := by decide +kernel
theorem dX11_copy_39 : decode cX11_copy 39 = .ok (.iload_n 3, 1) := by decide +kernel
theorem dX11_copy_40 : decode cX11_copy 40 = .ok (.iaload, 1) := by decide +kernel
theorem dX11_copy_41 : decode cX11_copy 41 = .ok (.ifCond .ge 6, 3) := by decide +kernel
theorem dX11_copy_44 : decode cX11_copy 44 = .ok (.bipush (-11), 2) := by decide +kernel
theorem dX11_copy_46 : decode cX11_copy 46 = .ok (.ireturn, 1) := by decide +kernel
theorem dX11_copy_47 : decode cX11_copy 47 = .ok (.aload_n 0, 1) := by decide +kernel
theorem dX11_copy_48 : decode cX11_copy 48 = .ok (.getfield 29, 3) := by decide +kernel
theorem dX11_copy_51 : decode cX11_copy 51 = .ok (.iload_n 1, 1) := by decide +kernel
theorem dX11_copy_52 : decode cX11_copy 52 = .ok (.iaload, 1) := by decide +kernel
theorem dX11_copy_53 : decode cX11_copy 53 = .ok (.aload_n 0, 1) := by decide +kernel
theorem dX11_copy_54 : decode cX11_copy 54 = .ok (.getfield 29, 3) := by decide +kernel
theorem dX11_copy_57 : decode cX11_copy 57 = .ok (.iload_n 3, 1) := by decide +kernel
theorem dX11_copy_58 : decode cX11_copy 58 = .ok (.iaload, 1) := by decide +kernel
theorem dX11_copy_59 : decode cX11_copy 59 = .ok (.if_icmp .eq 6, 3) := by decide +kernel
theorem dX11_copy_62 : decode cX11_copy 62 = .ok (.bipush (-12), 2) := by decide +kernel
theorem dX11_copy_64 : decode cX11_copy 64 = .ok (.ireturn, 1) := by decide +kernel
theorem dX11_copy_65 : decode cX11_copy 65 = .ok (.iload 5, 2) := by decide +kernel
theorem dX11_copy_67 : decode cX11_copy 67 = .ok (.ifCond .lt 46, 3) := by decide +kernel
theorem dX11_copy_70 : decode cX11_copy 70 = .ok (.iload 5, 2) := by decide +kernel
theorem dX11_copy_72 : decode cX11_copy 72 = .ok (.bipush 24, 2) := by decide +kernel
theorem dX11_copy_74 : decode cX11_copy 74 = .ok (.if_icmp .gt 39, 3) := by decide +kernel
theorem dX11_copy_77 : decode cX11_copy 77 = .ok (.iload_n 2, 1) := by decide +kernel
theorem dX11_copy_78 : decode cX11_copy 78 = .ok (.ifCond .lt 35, 3) := by decide +kernel
theorem dX11_copy_81 : decode cX11_copy 81 = .ok (.iload 4, 2) := by decide +kernel
theorem dX11_copy_83 : decode cX11_copy 83 = .ok (.ifCond .lt 30, 3) := by decide +kernel
theorem dX11_copy_86 : decode cX11_copy 86 = .ok (.iload_n 2, 1) := by decide +kernel
theorem dX11_copy_87 : decode cX11_copy 87 = .ok (.aload_n 0, 1) := by decide +kernel
theorem dX11_copy_88 : decode cX11_copy 88 = .ok (.getfield 32, 3) := by decide +kernel
theorem dX11_copy_91 : decode cX11_copy 91 = .ok (.iload_n 1, 1) := by decide +kernel
theorem dX11_copy_92 : decode cX11_copy 92 = .ok (.iaload, 1) := by decide +kernel
theorem dX11_copy_93 : decode cX11_copy 93 = .ok (.iload 5, 2) := by decide +kernel
theorem dX11_copy_95 : decode cX11_copy 95 = .ok (.isub, 1) := by decide +kernel
theorem dX11_copy_96 : decode cX11_copy 96 = .ok (.if_icmp .gt 17, 3) := by decide +kernel
theorem dX11_copy_99 : decode cX11_copy 99 = .ok (.iload 4, 2) := by decide +kernel
theorem dX11_copy_101 : decode cX11_copy 101 = .ok (.aload_n 0, 1) := by decide +kernel
theorem dX11_copy_102 : decode cX11_copy 102 = .ok (.getfield 32, 3) := by decide +kernel
theorem dX11_copy_105 : decode cX11_copy 105 = .ok (.iload_n 3, 1) := by decide +kernel
theorem dX11_copy_106 : decode cX11_copy 106 = .ok (.iaload, 1) := by decide +kernel
theorem dX11_copy_107 : decode cX11_copy 107 = .ok (.iload 5, 2) := by decide +kernel
theorem dX11_copy_109 : decode cX11_copy 109 = .ok (.isub, 1) := by decide +kernel
theorem dX11_copy_110 : decode cX11_copy 110 = .ok (.if_icmp .le 6, 3) := by decide +kernel
theorem dX11_copy_113 : decode cX11_copy 113 = .ok (.bipush (-13), 2) := by decide +kernel
theorem dX11_copy_115 : decode cX11_copy 115 = .ok (.ireturn, 1) := by decide +kernel
theorem dX11_copy_116 : decode cX11_copy 116 = .ok (.iload 4, 2) := by decide +kernel
theorem dX11_copy_118 : decode cX11_copy 118 = .ok (.iload_n 2, 1) := by decide +kernel
theorem dX11_copy_119 : decode cX11_copy 119 = .ok (.if_icmp .le 7, 3) := by decide +kernel
theorem dX11_copy_122 : decode cX11_copy 122 = .ok (.iconst 1, 1) := by decide +kernel
theorem dX11_copy_123 : decode cX11_copy 123 = .ok (.goto 4, 3) := by decide +kernel
theorem dX11_copy_126 : decode cX11_copy 126 = .ok (.iconst 0, 1) := by decide +kernel
theorem dX11_copy_127 : decode cX11_copy 127 = .ok (.istore 6, 2) := by decide +kernel
theorem dX11_copy_129 : decode cX11_copy 129 = .ok (.iconst 0, 1) := by decide +kernel
theorem dX11_copy_130 : decode cX11_copy 130 = .ok (.istore 7, 2) := by decide +kernel
theorem dX11_copy_132 : decode cX11_copy 132 = .ok (.iload 7, 2) := by decide +kernel
theorem dX11_copy_134 : decode cX11_copy 134 = .ok (.iload 5, 2) := by decide +kernel
theorem dX11_copy_136 : decode cX11_copy 136 = .ok (.if_icmp .ge 57, 3) := by decide +kernel
theorem dX11_copy_139 : decode cX11_copy 139 = .ok (.iload 6, 2) := by decide +kernel
theorem dX11_copy_141 : decode cX11_copy 141 = .ok (.ifCond .eq 13, 3) := by decide +kernel
theorem dX11_copy_144 : decode cX11_copy 144 = .ok (.iload 5, 2) := by decide +kernel
theorem dX11_copy_146 : decode cX11_copy 146 = .ok (.iconst 1, 1) := by decide +kernel
theorem dX11_copy_147 : decode cX11_copy 147 = .ok (.isub, 1) := by decide +kernel
theorem dX11_copy_148 : decode cX11_copy 148 = .ok (.iload 7, 2) := by decide +kernel
theorem dX11_copy_150 : decode cX11_copy 150 = .ok (.isub, 1) := by decide +kernel
theorem dX11_copy_151 : decode cX11_copy 151 = .ok (.goto 5, 3) := by decide +kernel
theorem dX11_copy_154 : decode cX11_copy 154 = .ok (.iload 7, 2) := by decide +kernel
theorem dX11_copy_156 : decode cX11_copy 156 = .ok (.istore 8, 2) := by decide +kernel
theorem dX11_copy_158 : decode cX11_copy 158 = .ok (.aload_n 0, 1) := by decide +kernel
theorem dX11_copy_159 : decode cX11_copy 159 = .ok (.getfield 35, 3) := by decide +kernel
theorem dX11_copy_162 : decode cX11_copy 162 = .ok (.bipush 24, 2) := by decide +kernel
theorem dX11_copy_164 : decode cX11_copy 164 = .ok (.iload_n 3, 1) := by decide +kernel
theorem dX11_copy_165 : decode cX11_copy 165 = .ok (.imul, 1) := by decide +kernel
theorem dX11_copy_166 : decode cX11_copy 166 = .ok (.iload 4, 2) := by decide +kernel
theorem dX11_copy_168 : decode cX11_copy 168 = .ok (.iadd, 1) := by decide +kernel
theorem dX11_copy_169 : decode cX11_copy 169 = .ok (.iload 8, 2) := by decide +kernel
theorem dX11_copy_171 : decode cX11_copy 171 = .ok (.iadd, 1) := by decide +kernel
theorem dX11_copy_172 : decode cX11_copy 172 = .ok (.aload_n 0, 1) := by decide +kernel
theorem dX11_copy_173 : decode cX11_copy 173 = .ok (.getfield 35, 3) := by decide +kernel
theorem dX11_copy_176 : decode cX11_copy 176 = .ok (.bipush 24, 2) := by decide +kernel
theorem dX11_copy_178 : decode cX11_copy 178 = .ok (.iload_n 1, 1) := by decide +kernel
theorem dX11_copy_179 : decode cX11_copy 179 = .ok (.imul, 1) := by decide +kernel
theorem dX11_copy_180 : decode cX11_copy 180 = .ok (.iload_n 2, 1) := by decide +kernel
theorem dX11_copy_181 : decode cX11_copy 181 = .ok (.iadd, 1) := by decide +kernel
theorem dX11_copy_182 : decode cX11_copy 182 = .ok (.iload 8, 2) := by decide +kernel
theorem dX11_copy_184 : decode cX11_copy 184 = .ok (.iadd, 1) := by decide +kernel
theorem dX11_copy_185 : decode cX11_copy 185 = .ok (.laload, 1) := by decide +kernel
theorem dX11_copy_186 : decode cX11_copy 186 = .ok (.lastore, 1) := by decide +kernel
theorem dX11_copy_187 : decode cX11_copy 187 = .ok (.iinc 7 1, 3) := by decide +kernel
theorem dX11_copy_190 : decode cX11_copy 190 = .ok (.goto (-58), 3) := by decide +kernel
theorem dX11_copy_193 : decode cX11_copy 193 = .ok (.iload 5, 2) := by decide +kernel
theorem dX11_copy_195 : decode cX11_copy 195 = .ok (.ireturn, 1) := by decide +kernel
theorem dL_law_0 : decode cL_law 0 = .ok (.new 7, 3) := by decide +kernel
theorem dL_law_3 : decode cL_law 3 = .ok (.dup, 1) := by decide +kernel
theorem dL_law_4 : decode cL_law 4 = .ok (.invokespecial 9, 3) := by decide +kernel
theorem dL_law_7 : decode cL_law 7 = .ok (.astore_n 1, 1) := by decide +kernel
theorem dL_law_8 : decode cL_law 8 = .ok (.new 10, 3) := by decide +kernel
theorem dL_law_11 : decode cL_law 11 = .ok (.dup, 1) := by decide +kernel
theorem dL_law_12 : decode cL_law 12 = .ok (.invokespecial 12, 3) := by decide +kernel
theorem dL_law_15 : decode cL_law 15 = .ok (.astore_n 2, 1) := by decide +kernel
theorem dL_law_16 : decode cL_law 16 = .ok (.iconst 0, 1) := by decide +kernel
theorem dL_law_17 : decode cL_law 17 = .ok (.istore_n 3, 1) := by decide +kernel
theorem dL_law_18 : decode cL_law 18 = .ok (.iload_n 3, 1) := by decide +kernel
theorem dL_law_19 : decode cL_law 19 = .ok (.aload_n 0, 1) := by decide +kernel
theorem dL_law_20 : decode cL_law 20 = .ok (.arraylength, 1) := by decide +kernel
theorem dL_law_21 : decode cL_law 21 = .ok (.bipush 6, 2) := by decide +kernel
theorem dL_law_23 : decode cL_law 23 = .ok (.isub, 1) := by decide +kernel
theorem dL_law_24 : decode cL_law 24 = .ok (.if_icmp .gt 1152, 3) := by decide +kernel
theorem dL_law_27 : decode cL_law 27 = .ok (.aload_n 0, 1) := by decide +kernel
theorem dL_law_28 : decode cL_law 28 = .ok (.iload_n 3, 1) := by decide +kernel
theorem dL_law_29 : decode cL_law 29 = .ok (.iaload, 1) := by decide +kernel
theorem dL_law_30 : decode cL_law 30 = .ok (.bipush 63, 2) := by decide +kernel
theorem dL_law_32 : decode cL_law 32 = .ok (.iand, 1) := by decide +kernel
theorem dL_law_33 : decode cL_law 33 = .ok (.tableswitch 1137 0 32 #[147, 190, 223, 266, 299, 332, 355, 398, 431, 464, 487, 510, 533, 546, 559, 582, 595, 608, 631, 664, 687, 731, 754, 777, 790, 813, 826, 839, 882, 925, 968, 991, 1074], 147) := by decide +kernel
theorem dL_law_180 : decode cL_law 180 = .ok (.aload_n 1, 1) := by decide +kernel
theorem dL_law_181 : decode cL_law 181 = .ok (.aload_n 0, 1) := by decide +kernel
theorem dL_law_182 : decode cL_law 182 = .ok (.iload_n 3, 1) := by decide +kernel
theorem dL_law_183 : decode cL_law 183 = .ok (.iconst 1, 1) := by decide +kernel
theorem dL_law_184 : decode cL_law 184 = .ok (.iadd, 1) := by decide +kernel
theorem dL_law_185 : decode cL_law 185 = .ok (.iaload, 1) := by decide +kernel
theorem dL_law_186 : decode cL_law 186 = .ok (.aload_n 0, 1) := by decide +kernel
theorem dL_law_187 : decode cL_law 187 = .ok (.iload_n 3, 1) := by decide +kernel
theorem dL_law_188 : decode cL_law 188 = .ok (.iconst 2, 1) := by decide +kernel
theorem dL_law_189 : decode cL_law 189 = .ok (.iadd, 1) := by decide +kernel
theorem dL_law_190 : decode cL_law 190 = .ok (.iaload, 1) := by decide +kernel
theorem dL_law_191 : decode cL_law 191 = .ok (.aload_n 0, 1) := by decide +kernel
theorem dL_law_192 : decode cL_law 192 = .ok (.iload_n 3, 1) := by decide +kernel
theorem dL_law_193 : decode cL_law 193 = .ok (.iconst 3, 1) := by decide +kernel
theorem dL_law_194 : decode cL_law 194 = .ok (.iadd, 1) := by decide +kernel
theorem dL_law_195 : decode cL_law 195 = .ok (.iaload, 1) := by decide +kernel
theorem dL_law_196 : decode cL_law 196 = .ok (.invokevirtual 13, 3) := by decide +kernel
theorem dL_law_199 : decode cL_law 199 = .ok (.aload_n 2, 1) := by decide +kernel
theorem dL_law_200 : decode cL_law 200 = .ok (.aload_n 0, 1) := by decide +kernel
theorem dL_law_201 : decode cL_law 201 = .ok (.iload_n 3, 1) := by decide +kernel
theorem dL_law_202 : decode cL_law 202 = .ok (.iconst 1, 1) := by decide +kernel
theorem dL_law_203 : decode cL_law 203 = .ok (.iadd, 1) := by decide +kernel
theorem dL_law_204 : decode cL_law 204 = .ok (.iaload, 1) := by decide +kernel
theorem dL_law_205 : decode cL_law 205 = .ok (.aload_n 0, 1) := by decide +kernel
theorem dL_law_206 : decode cL_law 206 = .ok (.iload_n 3, 1) := by decide +kernel
theorem dL_law_207 : decode cL_law 207 = .ok (.iconst 2, 1) := by decide +kernel
theorem dL_law_208 : decode cL_law 208 = .ok (.iadd, 1) := by decide +kernel
theorem dL_law_209 : decode cL_law 209 = .ok (.iaload, 1) := by decide +kernel
theorem dL_law_210 : decode cL_law 210 = .ok (.aload_n 0, 1) := by decide +kernel
theorem dL_law_211 : decode cL_law 211 = .ok (.iload_n 3, 1) := by decide +kernel
theorem dL_law_212 : decode cL_law 212 = .ok (.iconst 3, 1) := by decide +kernel
theorem dL_law_213 : decode cL_law 213 = .ok (.iadd, 1) := by decide +kernel
theorem dL_law_214 : decode cL_law 214 = .ok (.iaload, 1) := by decide +kernel
theorem dL_law_215 : decode cL_law 215 = .ok (.invokevirtual 17, 3) := by decide +kernel
theorem dL_law_218 : decode cL_law 218 = .ok (.if_icmp .eq 952, 3) := by decide +kernel
theorem dL_law_221 : decode cL_law 221 = .ok (.iconst 0, 1) := by decide +kernel
theorem dL_law_222 : decode cL_law 222 = .ok (.ireturn, 1) := by decide +kernel
theorem dL_law_223 : decode cL_law 223 = .ok (.aload_n 1, 1) := by decide +kernel
theorem dL_law_224 : decode cL_law 224 = .ok (.aload_n 0, 1) := by decide +kernel
theorem dL_law_225 : decode cL_law 225 = .ok (.iload_n 3, 1) := by decide +kernel
theorem dL_law_226 : decode cL_law 226 = .ok (.iconst 1, 1) := by decide +kernel
theorem dL_law_227 : decode cL_law 227 = .ok (.iadd, 1) := by decide +kernel
theorem dL_law_228 : decode cL_law 228 = .ok (.iaload, 1) := by decide +kernel
theorem dL_law_229 : decode cL_law 229 = .ok (.aload_n 0, 1) := by decide +kernel
theorem dL_law_230 : decode cL_law 230 = .ok (.iload_n 3, 1) := by decide +kernel
theorem dL_law_231 : decode cL_law 231 = .ok (.iconst 2, 1) := by decide +kernel
theorem dL_law_232 : decode cL_law 232 = .ok (.iadd, 1) := by decide +kernel
theorem dL_law_233 : decode cL_law 233 = .ok (.iaload, 1) := by decide +kernel
theorem dL_law_234 : decode cL_law 234 = .ok (.invokevirtual 18, 3) := by decide +kernel
theorem dL_law_237 : decode cL_law 237 = .ok (.aload_n 2, 1) := by decide +kernel
theorem dL_law_238 : decode cL_law 238 = .ok (.aload_n 0, 1) := by decide +kernel
theorem dL_law_239 : decode cL_law 239 = .ok (.iload_n 3, 1) := by decide +kernel
theorem dL_law_240 : decode cL_law 240 = .ok (.iconst 1, 1) := by decide +kernel
theorem dL_law_241 : decode cL_law 241 = .ok (.iadd, 1) := by decide +kernel
theorem dL_law_242 : decode cL_law 242 = .ok (.iaload, 1) := by decide +kernel
theorem dL_law_243 : decode cL_law 243 = .ok (.aload_n 0, 1) := by decide +kernel
theorem dL_law_244 : decode cL_law 244 = .ok (.iload_n 3, 1) := by decide +kernel
theorem dL_law_245 : decode cL_law 245 = .ok (.iconst 2, 1) := by decide +kernel
theorem dL_law_246 : decode cL_law 246 = .ok (.iadd, 1) := by decide +kernel
theorem dL_law_247 : decode cL_law 247 = .ok (.iaload, 1) := by decide +kernel
theorem dL_law_248 : decode cL_law 248 = .ok (.invokevirtual 22, 3) := by decide +kernel
theorem dL_law_251 : decode cL_law 251 = .ok (.if_icmp .eq 919, 3) := by decide +kernel
theorem dL_law_254 : decode cL_law 254 = .ok (.iconst 0, 1) := by decide +kernel
theorem dL_law_255 : decode cL_law 255 = .ok (.ireturn, 1) := by decide +kernel
theorem dL_law_256 : decode cL_law 256 = .ok (.aload_n 1, 1) := by decide +kernel
theorem dL_law_257 : decode cL_law 257 = .ok (.aload_n 0, 1) := by decide +kernel
theorem dL_law_258 : decode cL_law 258 = .ok (.iload_n 3, 1) := by decide +kernel
theorem dL_law_259 : decode cL_law 259 = .ok (.iconst 1, 1) := by decide +kernel
theorem dL_law_260 : decode cL_law 260 = .ok (.iadd, 1) := by decide +kernel
theorem dL_law_261 : decode cL_law 261 = .ok (.iaload, 1) := by decide +kernel
theorem dL_law_262 : decode cL_law 262 = .ok (.aload_n 0, 1) := by decide +kernel
theorem dL_law_263 : decode cL_law 263 = .ok (.iload_n 3, 1) := by decide +kernel
theorem dL_law_264 : decode cL_law 264 = .ok (.iconst 2, 1) := by decide +kernel
theorem dL_law_265 : decode cL_law 265 = .ok (.iadd, 1) := by decide +kernel
theorem dL_law_266 : decode cL_law 266 = .ok (.iaload, 1) := by decide +kernel
theorem dL_law_267 : decode cL_law 267 = .ok (.aload_n 0, 1) := by decide +kernel
theorem dL_law_268 : decode cL_law 268 = .ok (.iload_n 3, 1) := by decide +kernel
theorem dL_law_269 : decode cL_law 269 = .ok (.iconst 3, 1) := by decide +kernel
theorem dL_law_270 : decode cL_law 270 = .ok (.iadd, 1) := by decide +kernel
theorem dL_law_271 : decode cL_law 271 = .ok (.iaload, 1) := by decide +kernel
theorem dL_law_272 : decode cL_law 272 = .ok (.invokevirtual 23, 3) := by decide +kernel
theorem dL_law_275 : decode cL_law 275 = .ok (.aload_n 2, 1) := by decide +kernel
theorem dL_law_276 : decode cL_law 276 = .ok (.aload_n 0, 1) := by decide +kernel
theorem dL_law_277 : decode cL_law 277 = .ok (.iload_n 3, 1) := by decide +kernel
theorem dL_law_278 : decode cL_law 278 = .ok (.iconst 1, 1) := by decide +kernel
theorem dL_law_279 : decode cL_law 279 = .ok (.iadd, 1) := by decide +kernel
theorem dL_law_280 : decode cL_law 280 = .ok (.iaload, 1) := by decide +kernel
theorem dL_law_281 : decode cL_law 281 = .ok (.aload_n 0, 1) := by decide +kernel
theorem dL_law_282 : decode cL_law 282 = .ok (.iload_n 3, 1) := by decide +kernel
theorem dL_law_283 : decode cL_law 283 = .ok (.iconst 2, 1) := by decide +kernel
theorem dL_law_284 : decode cL_law 284 = .ok (.iadd, 1) := by decide +kernel
theorem dL_law_285 : decode cL_law 285 = .ok (.iaload, 1) := by decide +kernel
theorem dL_law_286 : decode cL_law 286 = .ok (.aload_n 0, 1) := by decide +kernel
theorem dL_law_287 : decode cL_law 287 = .ok (.iload_n 3, 1) := by decide +kernel
theorem dL_law_288 : decode cL_law 288 = .ok (.iconst 3, 1) := by decide +kernel
theorem dL_law_289 : decode cL_law 289 = .ok (.iadd, 1) := by decide +kernel
theorem dL_law_290 : decode cL_law 290 = .ok (.iaload, 1) := by decide +kernel
theorem dL_law_291 : decode cL_law 291 = .ok (.invokevirtual 26, 3) := by decide +kernel
theorem dL_law_294 : decode cL_law 294 = .ok (.if_icmp .eq 876, 3) := by decide +kernel
theorem dL_law_297 : decode cL_law 297 = .ok (.iconst 0, 1) := by decide +kernel
theorem dL_law_298 : decode cL_law 298 = .ok (.ireturn, 1) := by decide +kernel
theorem dL_law_299 : decode cL_law 299 = .ok (.aload_n 1, 1) := by decide +kernel
theorem dL_law_300 : decode cL_law 300 = .ok (.aload_n 0, 1) := by decide +kernel
theorem dL_law_301 : decode cL_law 301 = .ok (.iload_n 3, 1) := by decide +kernel
theorem dL_law_302 : decode cL_law 302 = .ok (.iconst 1, 1) := by decide +kernel
theorem dL_law_303 : decode cL_law 303 = .ok (.iadd, 1) := by decide +kernel
theorem dL_law_304 : decode cL_law 304 = .ok (.iaload, 1) := by decide +kernel
theorem dL_law_305 : decode cL_law 305 = .ok (.aload_n 0, 1) := by decide +kernel
theorem dL_law_306 : decode cL_law 306 = .ok (.iload_n 3, 1) := by decide +kernel
theorem dL_law_307 : decode cL_law 307 = .ok (.iconst 2, 1) := by decide +kernel
theorem dL_law_308 : decode cL_law 308 = .ok (.iadd, 1) := by decide +kernel
theorem dL_law_309 : decode cL_law 309 = .ok (.iaload, 1) := by decide +kernel
theorem dL_law_310 : decode cL_law 310 = .ok (.invokevirtual 27, 3) := by decide +kernel
theorem dL_law_313 : decode cL_law 313 = .ok (.aload_n 2, 1) := by decide +kernel
theorem dL_law_314 : decode cL_law 314 = .ok (.aload_n 0, 1) := by decide +kernel
theorem dL_law_315 : decode cL_law 315 = .ok (.iload_n 3, 1) := by decide +kernel
theorem dL_law_316 : decode cL_law 316 = .ok (.iconst 1, 1) := by decide +kernel
theorem dL_law_317 : decode cL_law 317 = .ok (.iadd, 1) := by decide +kernel
theorem dL_law_318 : decode cL_law 318 = .ok (.iaload, 1) := by decide +kernel
theorem dL_law_319 : decode cL_law 319 = .ok (.aload_n 0, 1) := by decide +kernel
theorem dL_law_320 : decode cL_law 320 = .ok (.iload_n 3, 1) := by decide +kernel
theorem dL_law_321 : decode cL_law 321 = .ok (.iconst 2, 1) := by decide +kernel
theorem dL_law_322 : decode cL_law 322 = .ok (.iadd, 1) := by decide +kernel
theorem dL_law_323 : decode cL_law 323 = .ok (.iaload, 1) := by decide +kernel
theorem dL_law_324 : decode cL_law 324 = .ok (.invokevirtual 30, 3) := by decide +kernel
theorem dL_law_327 : decode cL_law 327 = .ok (.if_icmp .eq 843, 3) := by decide +kernel
theorem dL_law_330 : decode cL_law 330 = .ok (.iconst 0, 1) := by decide +kernel
theorem dL_law_331 : decode cL_law 331 = .ok (.ireturn, 1) := by decide +kernel
theorem dL_law_332 : decode cL_law 332 = .ok (.aload_n 1, 1) := by decide +kernel
theorem dL_law_333 : decode cL_law 333 = .ok (.aload_n 0, 1) := by decide +kernel
theorem dL_law_334 : decode cL_law 334 = .ok (.iload_n 3, 1) := by decide +kernel
theorem dL_law_335 : decode cL_law 335 = .ok (.iconst 1, 1) := by decide +kernel
theorem dL_law_336 : decode cL_law 336 = .ok (.iadd, 1) := by decide +kernel
theorem dL_law_337 : decode cL_law 337 = .ok (.iaload, 1) := by decide +kernel
theorem dL_law_338 : decode cL_law 338 = .ok (.aload_n 0, 1) := by decide +kernel
theorem dL_law_339 : decode cL_law 339 = .ok (.iload_n 3, 1) := by decide +kernel
theorem dL_law_340 : decode cL_law 340 = .ok (.iconst 2, 1) := by decide +kernel
theorem dL_law_341 : decode cL_law 341 = .ok (.iadd, 1) := by decide +kernel
theorem dL_law_342 : decode cL_law 342 = .ok (.iaload, 1) := by decide +kernel
theorem dL_law_343 : decode cL_law 343 = .ok (.invokevirtual 31, 3) := by decide +kernel
theorem dL_law_346 : decode cL_law 346 = .ok (.aload_n 2, 1) := by decide +kernel
theorem dL_law_347 : decode cL_law 347 = .ok (.aload_n 0, 1) := by decide +kernel
theorem dL_law_348 : decode cL_law 348 = .ok (.iload_n 3, 1) := by decide +kernel
theorem dL_law_349 : decode cL_law 349 = .ok (.iconst 1, 1) := by decide +kernel
theorem dL_law_350 : decode cL_law 350 = .ok (.iadd, 1) := by decide +kernel
theorem dL_law_351 : decode cL_law 351 = .ok (.iaload, 1) := by decide +kernel
theorem dL_law_352 : decode cL_law 352 = .ok (.aload_n 0, 1) := by decide +kernel
theorem dL_law_353 : decode cL_law 353 = .ok (.iload_n 3, 1) := by decide +kernel
theorem dL_law_354 : decode cL_law 354 = .ok (.iconst 2, 1) := by decide +kernel
theorem dL_law_355 : decode cL_law 355 = .ok (.iadd, 1) := by decide +kernel
theorem dL_law_356 : decode cL_law 356 = .ok (.iaload, 1) := by decide +kernel
theorem dL_law_357 : decode cL_law 357 = .ok (.invokevirtual 34, 3) := by decide +kernel
theorem dL_law_360 : decode cL_law 360 = .ok (.if_icmp .eq 810, 3) := by decide +kernel
theorem dL_law_363 : decode cL_law 363 = .ok (.iconst 0, 1) := by decide +kernel
theorem dL_law_364 : decode cL_law 364 = .ok (.ireturn, 1) := by decide +kernel
theorem dL_law_365 : decode cL_law 365 = .ok (.aload_n 1, 1) := by decide +kernel
theorem dL_law_366 : decode cL_law 366 = .ok (.aload_n 0, 1) := by decide +kernel
theorem dL_law_367 : decode cL_law 367 = .ok (.iload_n 3, 1) := by decide +kernel
theorem dL_law_368 : decode cL_law 368 = .ok (.iconst 1, 1) := by decide +kernel
theorem dL_law_369 : decode cL_law 369 = .ok (.iadd, 1) := by decide +kernel
theorem dL_law_370 : decode cL_law 370 = .ok (.iaload, 1) := by decide +kernel
theorem dL_law_371 : decode cL_law 371 = .ok (.invokevirtual 35, 3) := by decide +kernel
theorem dL_law_374 : decode cL_law 374 = .ok (.aload_n 2, 1) := by decide +kernel
theorem dL_law_375 : decode cL_law 375 = .ok (.aload_n 0, 1) := by decide +kernel
theorem dL_law_376 : decode cL_law 376 = .ok (.iload_n 3, 1) := by decide +kernel
theorem dL_law_377 : decode cL_law 377 = .ok (.iconst 1, 1) := by decide +kernel
theorem dL_law_378 : decode cL_law 378 = .ok (.iadd, 1) := by decide +kernel
theorem dL_law_379 : decode cL_law 379 = .ok (.iaload, 1) := by decide +kernel
theorem dL_law_380 : decode cL_law 380 = .ok (.invokevirtual 39, 3) := by decide +kernel
theorem dL_law_383 : decode cL_law 383 = .ok (.if_icmp .eq 787, 3) := by decide +kernel
theorem dL_law_386 : decode cL_law 386 = .ok (.iconst 0, 1) := by decide +kernel
theorem dL_law_387 : decode cL_law 387 = .ok (.ireturn, 1) := by decide +kernel
theorem dL_law_388 : decode cL_law 388 = .ok (.aload_n 1, 1) := by decide +kernel
theorem dL_law_389 : decode cL_law 389 = .ok (.aload_n 0, 1) := by decide +kernel
theorem dL_law_390 : decode cL_law 390 = .ok (.iload_n 3, 1) := by decide +kernel
theorem dL_law_391 : decode cL_law 391 = .ok (.iconst 1, 1) := by decide +kernel
theorem dL_law_392 : decode cL_law 392 = .ok (.iadd, 1) := by decide +kernel
theorem dL_law_393 : decode cL_law 393 = .ok (.iaload, 1) := by decide +kernel
theorem dL_law_394 : decode cL_law 394 = .ok (.aload_n 0, 1) := by decide +kernel
theorem dL_law_395 : decode cL_law 395 = .ok (.iload_n 3, 1) := by decide +kernel
theorem dL_law_396 : decode cL_law 396 = .ok (.iconst 2, 1) := by decide +kernel
theorem dL_law_397 : decode cL_law 397 = .ok (.iadd, 1) := by decide +kernel
theorem dL_law_398 : decode cL_law 398 = .ok (.iaload, 1) := by decide +kernel
theorem dL_law_399 : decode cL_law 399 = .ok (.aload_n 0, 1) := by decide +kernel
theorem dL_law_400 : decode cL_law 400 = .ok (.iload_n 3, 1) := by decide +kernel
theorem dL_law_401 : decode cL_law 401 = .ok (.iconst 3, 1) := by decide +kernel
theorem dL_law_402 : decode cL_law 402 = .ok (.iadd, 1) := by decide +kernel
theorem dL_law_403 : decode cL_law 403 = .ok (.iaload, 1) := by decide +kernel
theorem dL_law_404 : decode cL_law 404 = .ok (.invokevirtual 40, 3) := by decide +kernel
theorem dL_law_407 : decode cL_law 407 = .ok (.aload_n 2, 1) := by decide +kernel
theorem dL_law_408 : decode cL_law 408 = .ok (.aload_n 0, 1) := by decide +kernel
theorem dL_law_409 : decode cL_law 409 = .ok (.iload_n 3, 1) := by decide +kernel
theorem dL_law_410 : decode cL_law 410 = .ok (.iconst 1, 1) := by decide +kernel
theorem dL_law_411 : decode cL_law 411 = .ok (.iadd, 1) := by decide +kernel
theorem dL_law_412 : decode cL_law 412 = .ok (.iaload, 1) := by decide +kernel
theorem dL_law_413 : decode cL_law 413 = .ok (.aload_n 0, 1) := by decide +kernel
theorem dL_law_414 : decode cL_law 414 = .ok (.iload_n 3, 1) := by decide +kernel
theorem dL_law_415 : decode cL_law 415 = .ok (.iconst 2, 1) := by decide +kernel
theorem dL_law_416 : decode cL_law 416 = .ok (.iadd, 1) := by decide +kernel
theorem dL_law_417 : decode cL_law 417 = .ok (.iaload, 1) := by decide +kernel
theorem dL_law_418 : decode cL_law 418 = .ok (.aload_n 0, 1) := by decide +kernel
theorem dL_law_419 : decode cL_law 419 = .ok (.iload_n 3, 1) := by decide +kernel
theorem dL_law_420 : decode cL_law 420 = .ok (.iconst 3, 1) := by decide +kernel
theorem dL_law_421 : decode cL_law 421 = .ok (.iadd, 1) := by decide +kernel
theorem dL_law_422 : decode cL_law 422 = .ok (.iaload, 1) := by decide +kernel
theorem dL_law_423 : decode cL_law 423 = .ok (.invokevirtual 43, 3) := by decide +kernel
theorem dL_law_426 : decode cL_law 426 = .ok (.if_icmp .eq 744, 3) := by decide +kernel
theorem dL_law_429 : decode cL_law 429 = .ok (.iconst 0, 1) := by decide +kernel
theorem dL_law_430 : decode cL_law 430 = .ok (.ireturn, 1) := by decide +kernel
theorem dL_law_431 : decode cL_law 431 = .ok (.aload_n 1, 1) := by decide +kernel
theorem dL_law_432 : decode cL_law 432 = .ok (.aload_n 0, 1) := by decide +kernel
theorem dL_law_433 : decode cL_law 433 = .ok (.iload_n 3, 1) := by decide +kernel
theorem dL_law_434 : decode cL_law 434 = .ok (.iconst 1, 1) := by decide +kernel
theorem dL_law_435 : decode cL_law 435 = .ok (.iadd, 1) := by decide +kernel
theorem dL_law_436 : decode cL_law 436 = .ok (.iaload, 1) := by decide +kernel
theorem dL_law_437 : decode cL_law 437 = .ok (.aload_n 0, 1) := by decide +kernel
theorem dL_law_438 : decode cL_law 438 = .ok (.iload_n 3, 1) := by decide +kernel
theorem dL_law_439 : decode cL_law 439 = .ok (.iconst 2, 1) := by decide +kernel
theorem dL_law_440 : decode cL_law 440 = .ok (.iadd, 1) := by decide +kernel
theorem dL_law_441 : decode cL_law 441 = .ok (.iaload, 1) := by decide +kernel
theorem dL_law_442 : decode cL_law 442 = .ok (.invokevirtual 44, 3) := by decide +kernel
theorem dL_law_445 : decode cL_law 445 = .ok (.aload_n 2, 1) := by decide +kernel
theorem dL_law_446 : decode cL_law 446 = .ok (.aload_n 0, 1) := by decide +kernel
theorem dL_law_447 : decode cL_law 447 = .ok (.iload_n 3, 1) := by decide +kernel
theorem dL_law_448 : decode cL_law 448 = .ok (.iconst 1, 1) := by decide +kernel
theorem dL_law_449 : decode cL_law 449 = .ok (.iadd, 1) := by decide +kernel
theorem dL_law_450 : decode cL_law 450 = .ok (.iaload, 1) := by decide +kernel
theorem dL_law_451 : decode cL_law 451 = .ok (.aload_n 0, 1) := by decide +kernel
theorem dL_law_452 : decode cL_law 452 = .ok (.iload_n 3, 1) := by decide +kernel
theorem dL_law_453 : decode cL_law 453 = .ok (.iconst 2, 1) := by decide +kernel
theorem dL_law_454 : decode cL_law 454 = .ok (.iadd, 1) := by decide +kernel
theorem dL_law_455 : decode cL_law 455 = .ok (.iaload, 1) := by decide +kernel
theorem dL_law_456 : decode cL_law 456 = .ok (.invokevirtual 47, 3) := by decide +kernel
theorem dL_law_459 : decode cL_law 459 = .ok (.if_icmp .eq 711, 3) := by decide +kernel
theorem dL_law_462 : decode cL_law 462 = .ok (.iconst 0, 1) := by decide +kernel
theorem dL_law_463 : decode cL_law 463 = .ok (.ireturn, 1) := by decide +kernel
theorem dL_law_464 : decode cL_law 464 = .ok (.aload_n 1, 1) := by decide +kernel
theorem dL_law_465 : decode cL_law 465 = .ok (.aload_n 0, 1) := by decide +kernel
theorem dL_law_466 : decode cL_law 466 = .ok (.iload_n 3, 1) := by decide +kernel
theorem dL_law_467 : decode cL_law 467 = .ok (.iconst 1, 1) := by decide +kernel
theorem dL_law_468 : decode cL_law 468 = .ok (.iadd, 1) := by decide +kernel
theorem dL_law_469 : decode cL_law 469 = .ok (.iaload, 1) := by decide +kernel
theorem dL_law_470 : decode cL_law 470 = .ok (.aload_n 0, 1) := by decide +kernel
theorem dL_law_471 : decode cL_law 471 = .ok (.iload_n 3, 1) := by decide +kernel
theorem dL_law_472 : decode cL_law 472 = .ok (.iconst 2, 1) := by decide +kernel
theorem dL_law_473 : decode cL_law 473 = .ok (.iadd, 1) := by decide +kernel
theorem dL_law_474 : decode cL_law 474 = .ok (.iaload, 1) := by decide +kernel
theorem dL_law_475 : decode cL_law 475 = .ok (.invokevirtual 48, 3) := by decide +kernel
theorem dL_law_478 : decode cL_law 478 = .ok (.aload_n 2, 1) := by decide +kernel
theorem dL_law_479 : decode cL_law 479 = .ok (.aload_n 0, 1) := by decide +kernel
theorem dL_law_480 : decode cL_law 480 = .ok (.iload_n 3, 1) := by decide +kernel
theorem dL_law_481 : decode cL_law 481 = .ok (.iconst 1, 1) := by decide +kernel
theorem dL_law_482 : decode cL_law 482 = .ok (.iadd, 1) := by decide +kernel
theorem dL_law_483 : decode cL_law 483 = .ok (.iaload, 1) := by decide +kernel
theorem dL_law_484 : decode cL_law 484 = .ok (.aload_n 0, 1) := by decide +kernel
theorem dL_law_485 : decode cL_law 485 = .ok (.iload_n 3, 1) := by decide +kernel
theorem dL_law_486 : decode cL_law 486 = .ok (.iconst 2, 1) := by decide +kernel
theorem dL_law_487 : decode cL_law 487 = .ok (.iadd, 1) := by decide +kernel
theorem dL_law_488 : decode cL_law 488 = .ok (.iaload, 1) := by decide +kernel
theorem dL_law_489 : decode cL_law 489 = .ok (.invokevirtual 51, 3) := by decide +kernel
theorem dL_law_492 : decode cL_law 492 = .ok (.if_icmp .eq 678, 3) := by decide +kernel
theorem dL_law_495 : decode cL_law 495 = .ok (.iconst 0, 1) := by decide +kernel
theorem dL_law_496 : decode cL_law 496 = .ok (.ireturn, 1) := by decide +kernel
theorem dL_law_497 : decode cL_law 497 = .ok (.aload_n 1, 1) := by decide +kernel
theorem dL_law_498 : decode cL_law 498 = .ok (.aload_n 0, 1) := by decide +kernel
theorem dL_law_499 : decode cL_law 499 = .ok (.iload_n 3, 1) := by decide +kernel
theorem dL_law_500 : decode cL_law 500 = .ok (.iconst 1, 1) := by decide +kernel
theorem dL_law_501 : decode cL_law 501 = .ok (.iadd, 1) := by decide +kernel
theorem dL_law_502 : decode cL_law 502 = .ok (.iaload, 1) := by decide +kernel
theorem dL_law_503 : decode cL_law 503 = .ok (.invokevirtual 52, 3) := by decide +kernel
theorem dL_law_506 : decode cL_law 506 = .ok (.aload_n 2, 1) := by decide +kernel
theorem dL_law_507 : decode cL_law 507 = .ok (.aload_n 0, 1) := by decide +kernel
theorem dL_law_508 : decode cL_law 508 = .ok (.iload_n 3, 1) := by decide +kernel
theorem dL_law_509 : decode cL_law 509 = .ok (.iconst 1, 1) := by decide +kernel
theorem dL_law_510 : decode cL_law 510 = .ok (.iadd, 1) := by decide +kernel
theorem dL_law_511 : decode cL_law 511 = .ok (.iaload, 1) := by decide +kernel
theorem dL_law_512 : decode cL_law 512 = .ok (.invokevirtual 55, 3) := by decide +kernel
theorem dL_law_515 : decode cL_law 515 = .ok (.if_icmp .eq 655, 3) := by decide +kernel
theorem dL_law_518 : decode cL_law 518 = .ok (.iconst 0, 1) := by decide +kernel
theorem dL_law_519 : decode cL_law 519 = .ok (.ireturn, 1) := by decide +kernel
theorem dL_law_520 : decode cL_law 520 = .ok (.aload_n 1, 1) := by decide +kernel
theorem dL_law_521 : decode cL_law 521 = .ok (.aload_n 0, 1) := by decide +kernel
theorem dL_law_522 : decode cL_law 522 = .ok (.iload_n 3, 1) := by decide +kernel
theorem dL_law_523 : decode cL_law 523 = .ok (.iconst 1, 1) := by decide +kernel
theorem dL_law_524 : decode cL_law 524 = .ok (.iadd, 1) := by decide +kernel
theorem dL_law_525 : decode cL_law 525 = .ok (.iaload, 1) := by decide +kernel
theorem dL_law_526 : decode cL_law 526 = .ok (.invokevirtual 56, 3) := by decide +kernel
theorem dL_law_529 : decode cL_law 529 = .ok (.aload_n 2, 1) := by decide +kernel
theorem dL_law_530 : decode cL_law 530 = .ok (.aload_n 0, 1) := by decide +kernel
theorem dL_law_531 : decode cL_law 531 = .ok (.iload_n 3, 1) := by decide +kernel
theorem dL_law_532 : decode cL_law 532 = .ok (.iconst 1, 1) := by decide +kernel
theorem dL_law_533 : decode cL_law 533 = .ok (.iadd, 1) := by decide +kernel
theorem dL_law_534 : decode cL_law 534 = .ok (.iaload, 1) := by decide +kernel
theorem dL_law_535 : decode cL_law 535 = .ok (.invokevirtual 59, 3) := by decide +kernel
theorem dL_law_538 : decode cL_law 538 = .ok (.if_icmp .eq 632, 3) := by decide +kernel
theorem dL_law_541 : decode cL_law 541 = .ok (.iconst 0, 1) := by decide +kernel
theorem dL_law_542 : decode cL_law 542 = .ok (.ireturn, 1) := by decide +kernel
theorem dL_law_543 : decode cL_law 543 = .ok (.aload_n 1, 1) := by decide +kernel
theorem dL_law_544 : decode cL_law 544 = .ok (.aload_n 0, 1) := by decide +kernel
theorem dL_law_545 : decode cL_law 545 = .ok (.iload_n 3, 1) := by decide +kernel
theorem dL_law_546 : decode cL_law 546 = .ok (.iconst 1, 1) := by decide +kernel
theorem dL_law_547 : decode cL_law 547 = .ok (.iadd, 1) := by decide +kernel
theorem dL_law_548 : decode cL_law 548 = .ok (.iaload, 1) := by decide +kernel
theorem dL_law_549 : decode cL_law 549 = .ok (.invokevirtual 60, 3) := by decide +kernel
theorem dL_law_552 : decode cL_law 552 = .ok (.aload_n 2, 1) := by decide +kernel
theorem dL_law_553 : decode cL_law 553 = .ok (.aload_n 0, 1) := by decide +kernel
theorem dL_law_554 : decode cL_law 554 = .ok (.iload_n 3, 1) := by decide +kernel
theorem dL_law_555 : decode cL_law 555 = .ok (.iconst 1, 1) := by decide +kernel
theorem dL_law_556 : decode cL_law 556 = .ok (.iadd, 1) := by decide +kernel
theorem dL_law_557 : decode cL_law 557 = .ok (.iaload, 1) := by decide +kernel
theorem dL_law_558 : decode cL_law 558 = .ok (.invokevirtual 63, 3) := by decide +kernel
theorem dL_law_561 : decode cL_law 561 = .ok (.if_icmp .eq 609, 3) := by decide +kernel
theorem dL_law_564 : decode cL_law 564 = .ok (.iconst 0, 1) := by decide +kernel
theorem dL_law_565 : decode cL_law 565 = .ok (.ireturn, 1) := by decide +kernel
theorem dL_law_566 : decode cL_law 566 = .ok (.aload_n 1, 1) := by decide +kernel
theorem dL_law_567 : decode cL_law 567 = .ok (.invokevirtual 64, 3) := by decide +kernel
theorem dL_law_570 : decode cL_law 570 = .ok (.aload_n 2, 1) := by decide +kernel
theorem dL_law_571 : decode cL_law 571 = .ok (.invokevirtual 68, 3) := by decide +kernel
theorem dL_law_574 : decode cL_law 574 = .ok (.if_icmp .eq 596, 3) := by decide +kernel
theorem dL_law_577 : decode cL_law 577 = .ok (.iconst 0, 1) := by decide +kernel
theorem dL_law_578 : decode cL_law 578 = .ok (.ireturn, 1) := by decide +kernel
theorem dL_law_579 : decode cL_law 579 = .ok (.aload_n 1, 1) := by decide +kernel
theorem dL_law_580 : decode cL_law 580 = .ok (.invokevirtual 69, 3) := by decide +kernel
theorem dL_law_583 : decode cL_law 583 = .ok (.aload_n 2, 1) := by decide +kernel
theorem dL_law_584 : decode cL_law 584 = .ok (.invokevirtual 72, 3) := by decide +kernel
theorem dL_law_587 : decode cL_law 587 = .ok (.if_icmp .eq 583, 3) := by decide +kernel
theorem dL_law_590 : decode cL_law 590 = .ok (.iconst 0, 1) := by decide +kernel
theorem dL_law_591 : decode cL_law 591 = .ok (.ireturn, 1) := by decide +kernel
theorem dL_law_592 : decode cL_law 592 = .ok (.aload_n 1, 1) := by decide +kernel
theorem dL_law_593 : decode cL_law 593 = .ok (.aload_n 0, 1) := by decide +kernel
theorem dL_law_594 : decode cL_law 594 = .ok (.iload_n 3, 1) := by decide +kernel
theorem dL_law_595 : decode cL_law 595 = .ok (.iconst 1, 1) := by decide +kernel
theorem dL_law_596 : decode cL_law 596 = .ok (.iadd, 1) := by decide +kernel
theorem dL_law_597 : decode cL_law 597 = .ok (.iaload, 1) := by decide +kernel
theorem dL_law_598 : decode cL_law 598 = .ok (.invokevirtual 73, 3) := by decide +kernel
theorem dL_law_601 : decode cL_law 601 = .ok (.aload_n 2, 1) := by decide +kernel
theorem dL_law_602 : decode cL_law 602 = .ok (.aload_n 0, 1) := by decide +kernel
theorem dL_law_603 : decode cL_law 603 = .ok (.iload_n 3, 1) := by decide +kernel
theorem dL_law_604 : decode cL_law 604 = .ok (.iconst 1, 1) := by decide +kernel
theorem dL_law_605 : decode cL_law 605 = .ok (.iadd, 1) := by decide +kernel
theorem dL_law_606 : decode cL_law 606 = .ok (.iaload, 1) := by decide +kernel
theorem dL_law_607 : decode cL_law 607 = .ok (.invokevirtual 76, 3) := by decide +kernel
theorem dL_law_610 : decode cL_law 610 = .ok (.if_icmp .eq 560, 3) := by decide +kernel
theorem dL_law_613 : decode cL_law 613 = .ok (.iconst 0, 1) := by decide +kernel
theorem dL_law_614 : decode cL_law 614 = .ok (.ireturn, 1) := by decide +kernel
theorem dL_law_615 : decode cL_law 615 = .ok (.aload_n 1, 1) := by decide +kernel
theorem dL_law_616 : decode cL_law 616 = .ok (.invokevirtual 77, 3) := by decide +kernel
theorem dL_law_619 : decode cL_law 619 = .ok (.aload_n 2, 1) := by decide +kernel
theorem dL_law_620 : decode cL_law 620 = .ok (.invokevirtual 80, 3) := by decide +kernel
theorem dL_law_623 : decode cL_law 623 = .ok (.if_icmp .eq 547, 3) := by decide +kernel
theorem dL_law_626 : decode cL_law 626 = .ok (.iconst 0, 1) := by decide +kernel
theorem dL_law_627 : decode cL_law 627 = .ok (.ireturn, 1) := by decide +kernel
theorem dL_law_628 : decode cL_law 628 = .ok (.aload_n 1, 1) := by decide +kernel
theorem dL_law_629 : decode cL_law 629 = .ok (.invokevirtual 81, 3) := by decide +kernel
theorem dL_law_632 : decode cL_law 632 = .ok (.aload_n 2, 1) := by decide +kernel
theorem dL_law_633 : decode cL_law 633 = .ok (.invokevirtual 84, 3) := by decide +kernel
theorem dL_law_636 : decode cL_law 636 = .ok (.if_icmp .eq 534, 3) := by decide +kernel
theorem dL_law_639 : decode cL_law 639 = .ok (.iconst 0, 1) := by decide +kernel
theorem dL_law_640 : decode cL_law 640 = .ok (.ireturn, 1) := by decide +kernel
theorem dL_law_641 : decode cL_law 641 = .ok (.aload_n 1, 1) := by decide +kernel
theorem dL_law_642 : decode cL_law 642 = .ok (.aload_n 0, 1) := by decide +kernel
theorem dL_law_643 : decode cL_law 643 = .ok (.iload_n 3, 1) := by decide +kernel
theorem dL_law_644 : decode cL_law 644 = .ok (.iconst 1, 1) := by decide +kernel
theorem dL_law_645 : decode cL_law 645 = .ok (.iadd, 1) := by decide +kernel
theorem dL_law_646 : decode cL_law 646 = .ok (.iaload, 1) := by decide +kernel
theorem dL_law_647 : decode cL_law 647 = .ok (.invokevirtual 85, 3) := by decide +kernel
theorem dL_law_650 : decode cL_law 650 = .ok (.aload_n 2, 1) := by decide +kernel
theorem dL_law_651 : decode cL_law 651 = .ok (.aload_n 0, 1) := by decide +kernel
theorem dL_law_652 : decode cL_law 652 = .ok (.iload_n 3, 1) := by decide +kernel
theorem dL_law_653 : decode cL_law 653 = .ok (.iconst 1, 1) := by decide +kernel
theorem dL_law_654 : decode cL_law 654 = .ok (.iadd, 1) := by decide +kernel
theorem dL_law_655 : decode cL_law 655 = .ok (.iaload, 1) := by decide +kernel
theorem dL_law_656 : decode cL_law 656 = .ok (.invokevirtual 88, 3) := by decide +kernel
theorem dL_law_659 : decode cL_law 659 = .ok (.if_icmp .eq 511, 3) := by decide +kernel
theorem dL_law_662 : decode cL_law 662 = .ok (.iconst 0, 1) := by decide +kernel
theorem dL_law_663 : decode cL_law 663 = .ok (.ireturn, 1) := by decide +kernel
theorem dL_law_664 : decode cL_law 664 = .ok (.aload_n 1, 1) := by decide +kernel
theorem dL_law_665 : decode cL_law 665 = .ok (.aload_n 0, 1) := by decide +kernel
theorem dL_law_666 : decode cL_law 666 = .ok (.iload_n 3, 1) := by decide +kernel
theorem dL_law_667 : decode cL_law 667 = .ok (.iconst 1, 1) := by decide +kernel
theorem dL_law_668 : decode cL_law 668 = .ok (.iadd, 1) := by decide +kernel
theorem dL_law_669 : decode cL_law 669 = .ok (.iaload, 1) := by decide +kernel
theorem dL_law_670 : decode cL_law 670 = .ok (.aload_n 0, 1) := by decide +kernel
theorem dL_law_671 : decode cL_law 671 = .ok (.iload_n 3, 1) := by decide +kernel
theorem dL_law_672 : decode cL_law 672 = .ok (.iconst 2, 1) := by decide +kernel
theorem dL_law_673 : decode cL_law 673 = .ok (.iadd, 1) := by decide +kernel
theorem dL_law_674 : decode cL_law 674 = .ok (.iaload, 1) := by decide +kernel
theorem dL_law_675 : decode cL_law 675 = .ok (.invokevirtual 89, 3) := by decide +kernel
theorem dL_law_678 : decode cL_law 678 = .ok (.aload_n 2, 1) := by decide +kernel
theorem dL_law_679 : decode cL_law 679 = .ok (.aload_n 0, 1) := by decide +kernel
theorem dL_law_680 : decode cL_law 680 = .ok (.iload_n 3, 1) := by decide +kernel
theorem dL_law_681 : decode cL_law 681 = .ok (.iconst 1, 1) := by decide +kernel
theorem dL_law_682 : decode cL_law 682 = .ok (.iadd, 1) := by decide +kernel
theorem dL_law_683 : decode cL_law 683 = .ok (.iaload, 1) := by decide +kernel
theorem dL_law_684 : decode cL_law 684 = .ok (.aload_n 0, 1) := by decide +kernel
theorem dL_law_685 : decode cL_law 685 = .ok (.iload_n 3, 1) := by decide +kernel
theorem dL_law_686 : decode cL_law 686 = .ok (.iconst 2, 1) := by decide +kernel
theorem dL_law_687 : decode cL_law 687 = .ok (.iadd, 1) := by decide +kernel
theorem dL_law_688 : decode cL_law 688 = .ok (.iaload, 1) := by decide +kernel
theorem dL_law_689 : decode cL_law 689 = .ok (.invokevirtual 92, 3) := by decide +kernel
theorem dL_law_692 : decode cL_law 692 = .ok (.if_icmp .eq 478, 3) := by decide +kernel
theorem dL_law_695 : decode cL_law 695 = .ok (.iconst 0, 1) := by decide +kernel
theorem dL_law_696 : decode cL_law 696 = .ok (.ireturn, 1) := by decide +kernel
theorem dL_law_697 : decode cL_law 697 = .ok (.aload_n 1, 1) := by decide +kernel
theorem dL_law_698 : decode cL_law 698 = .ok (.aload_n 0, 1) := by decide +kernel
theorem dL_law_699 : decode cL_law 699 = .ok (.iload_n 3, 1) := by decide +kernel
theorem dL_law_700 : decode cL_law 700 = .ok (.iconst 1, 1) := by decide +kernel
theorem dL_law_701 : decode cL_law 701 = .ok (.iadd, 1) := by decide +kernel
theorem dL_law_702 : decode cL_law 702 = .ok (.iaload, 1) := by decide +kernel
theorem dL_law_703 : decode cL_law 703 = .ok (.invokevirtual 93, 3) := by decide +kernel
theorem dL_law_706 : decode cL_law 706 = .ok (.aload_n 2, 1) := by decide +kernel
theorem dL_law_707 : decode cL_law 707 = .ok (.aload_n 0, 1) := by decide +kernel
theorem dL_law_708 : decode cL_law 708 = .ok (.iload_n 3, 1) := by decide +kernel
theorem dL_law_709 : decode cL_law 709 = .ok (.iconst 1, 1) := by decide +kernel
theorem dL_law_710 : decode cL_law 710 = .ok (.iadd, 1) := by decide +kernel
theorem dL_law_711 : decode cL_law 711 = .ok (.iaload, 1) := by decide +kernel
theorem dL_law_712 : decode cL_law 712 = .ok (.invokevirtual 96, 3) := by decide +kernel
theorem dL_law_715 : decode cL_law 715 = .ok (.if_icmp .eq 455, 3) := by decide +kernel
theorem dL_law_718 : decode cL_law 718 = .ok (.iconst 0, 1) := by decide +kernel
theorem dL_law_719 : decode cL_law 719 = .ok (.ireturn, 1) := by decide +kernel
theorem dL_law_720 : decode cL_law 720 = .ok (.aload_n 1, 1) := by decide +kernel
theorem dL_law_721 : decode cL_law 721 = .ok (.aload_n 0, 1) := by decide +kernel
theorem dL_law_722 : decode cL_law 722 = .ok (.iload_n 3, 1) := by decide +kernel
theorem dL_law_723 : decode cL_law 723 = .ok (.iconst 1, 1) := by decide +kernel
theorem dL_law_724 : decode cL_law 724 = .ok (.iadd, 1) := by decide +kernel
theorem dL_law_725 : decode cL_law 725 = .ok (.iaload, 1) := by decide +kernel
theorem dL_law_726 : decode cL_law 726 = .ok (.aload_n 0, 1) := by decide +kernel
theorem dL_law_727 : decode cL_law 727 = .ok (.iload_n 3, 1) := by decide +kernel
theorem dL_law_728 : decode cL_law 728 = .ok (.iconst 2, 1) := by decide +kernel
theorem dL_law_729 : decode cL_law 729 = .ok (.iadd, 1) := by decide +kernel
theorem dL_law_730 : decode cL_law 730 = .ok (.iaload, 1) := by decide +kernel
theorem dL_law_731 : decode cL_law 731 = .ok (.aload_n 0, 1) := by decide +kernel
theorem dL_law_732 : decode cL_law 732 = .ok (.iload_n 3, 1) := by decide +kernel
theorem dL_law_733 : decode cL_law 733 = .ok (.iconst 3, 1) := by decide +kernel
theorem dL_law_734 : decode cL_law 734 = .ok (.iadd, 1) := by decide +kernel
theorem dL_law_735 : decode cL_law 735 = .ok (.iaload, 1) := by decide +kernel
theorem dL_law_736 : decode cL_law 736 = .ok (.invokevirtual 97, 3) := by decide +kernel
theorem dL_law_739 : decode cL_law 739 = .ok (.aload_n 2, 1) := by decide +kernel
theorem dL_law_740 : decode cL_law 740 = .ok (.aload_n 0, 1) := by decide +kernel
theorem dL_law_741 : decode cL_law 741 = .ok (.iload_n 3, 1) := by decide +kernel
theorem dL_law_742 : decode cL_law 742 = .ok (.iconst 1, 1) := by decide +kernel
theorem dL_law_743 : decode cL_law 743 = .ok (.iadd, 1) := by decide +kernel
theorem dL_law_744 : decode cL_law 744 = .ok (.iaload, 1) := by decide +kernel
theorem dL_law_745 : decode cL_law 745 = .ok (.aload_n 0, 1) := by decide +kernel
theorem dL_law_746 : decode cL_law 746 = .ok (.iload_n 3, 1) := by decide +kernel
theorem dL_law_747 : decode cL_law 747 = .ok (.iconst 2, 1) := by decide +kernel
theorem dL_law_748 : decode cL_law 748 = .ok (.iadd, 1) := by decide +kernel
theorem dL_law_749 : decode cL_law 749 = .ok (.iaload, 1) := by decide +kernel
theorem dL_law_750 : decode cL_law 750 = .ok (.aload_n 0, 1) := by decide +kernel
theorem dL_law_751 : decode cL_law 751 = .ok (.iload_n 3, 1) := by decide +kernel
theorem dL_law_752 : decode cL_law 752 = .ok (.iconst 3, 1) := by decide +kernel
theorem dL_law_753 : decode cL_law 753 = .ok (.iadd, 1) := by decide +kernel
theorem dL_law_754 : decode cL_law 754 = .ok (.iaload, 1) := by decide +kernel
theorem dL_law_755 : decode cL_law 755 = .ok (.invokevirtual 101, 3) := by decide +kernel
theorem dL_law_758 : decode cL_law 758 = .ok (.lcmp, 1) := by decide +kernel
theorem dL_law_759 : decode cL_law 759 = .ok (.ifCond .eq 411, 3) := by decide +kernel
theorem dL_law_762 : decode cL_law 762 = .ok (.iconst 0, 1) := by decide +kernel
theorem dL_law_763 : decode cL_law 763 = .ok (.ireturn, 1) := by decide +kernel
theorem dL_law_764 : decode cL_law 764 = .ok (.aload_n 1, 1) := by decide +kernel
theorem dL_law_765 : decode cL_law 765 = .ok (.aload_n 0, 1) := by decide +kernel
theorem dL_law_766 : decode cL_law 766 = .ok (.iload_n 3, 1) := by decide +kernel
theorem dL_law_767 : decode cL_law 767 = .ok (.iconst 1, 1) := by decide +kernel
theorem dL_law_768 : decode cL_law 768 = .ok (.iadd, 1) := by decide +kernel
theorem dL_law_769 : decode cL_law 769 = .ok (.iaload, 1) := by decide +kernel
theorem dL_law_770 : decode cL_law 770 = .ok (.invokevirtual 102, 3) := by decide +kernel
theorem dL_law_773 : decode cL_law 773 = .ok (.aload_n 2, 1) := by decide +kernel
theorem dL_law_774 : decode cL_law 774 = .ok (.aload_n 0, 1) := by decide +kernel
theorem dL_law_775 : decode cL_law 775 = .ok (.iload_n 3, 1) := by decide +kernel
theorem dL_law_776 : decode cL_law 776 = .ok (.iconst 1, 1) := by decide +kernel
theorem dL_law_777 : decode cL_law 777 = .ok (.iadd, 1) := by decide +kernel
theorem dL_law_778 : decode cL_law 778 = .ok (.iaload, 1) := by decide +kernel
theorem dL_law_779 : decode cL_law 779 = .ok (.invokevirtual 105, 3) := by decide +kernel
theorem dL_law_782 : decode cL_law 782 = .ok (.if_icmp .eq 388, 3) := by decide +kernel
theorem dL_law_785 : decode cL_law 785 = .ok (.iconst 0, 1) := by decide +kernel
theorem dL_law_786 : decode cL_law 786 = .ok (.ireturn, 1) := by decide +kernel
theorem dL_law_787 : decode cL_law 787 = .ok (.aload_n 1, 1) := by decide +kernel
theorem dL_law_788 : decode cL_law 788 = .ok (.aload_n 0, 1) := by decide +kernel
theorem dL_law_789 : decode cL_law 789 = .ok (.iload_n 3, 1) := by decide +kernel
theorem dL_law_790 : decode cL_law 790 = .ok (.iconst 1, 1) := by decide +kernel
theorem dL_law_791 : decode cL_law 791 = .ok (.iadd, 1) := by decide +kernel
theorem dL_law_792 : decode cL_law 792 = .ok (.iaload, 1) := by decide +kernel
theorem dL_law_793 : decode cL_law 793 = .ok (.invokevirtual 106, 3) := by decide +kernel
theorem dL_law_796 : decode cL_law 796 = .ok (.aload_n 2, 1) := by decide +kernel
theorem dL_law_797 : decode cL_law 797 = .ok (.aload_n 0, 1) := by decide +kernel
theorem dL_law_798 : decode cL_law 798 = .ok (.iload_n 3, 1) := by decide +kernel
theorem dL_law_799 : decode cL_law 799 = .ok (.iconst 1, 1) := by decide +kernel
theorem dL_law_800 : decode cL_law 800 = .ok (.iadd, 1) := by decide +kernel
theorem dL_law_801 : decode cL_law 801 = .ok (.iaload, 1) := by decide +kernel
theorem dL_law_802 : decode cL_law 802 = .ok (.invokevirtual 109, 3) := by decide +kernel
theorem dL_law_805 : decode cL_law 805 = .ok (.if_icmp .eq 365, 3) := by decide +kernel
theorem dL_law_808 : decode cL_law 808 = .ok (.iconst 0, 1) := by decide +kernel
theorem dL_law_809 : decode cL_law 809 = .ok (.ireturn, 1) := by decide +kernel
theorem dL_law_810 : decode cL_law 810 = .ok (.aload_n 1, 1) := by decide +kernel
theorem dL_law_811 : decode cL_law 811 = .ok (.invokevirtual 110, 3) := by decide +kernel
theorem dL_law_814 : decode cL_law 814 = .ok (.aload_n 2, 1) := by decide +kernel
theorem dL_law_815 : decode cL_law 815 = .ok (.invokevirtual 113, 3) := by decide +kernel
theorem dL_law_818 : decode cL_law 818 = .ok (.if_icmp .eq 352, 3) := by decide +kernel
theorem dL_law_821 : decode cL_law 821 = .ok (.iconst 0, 1) := by decide +kernel
theorem dL_law_822 : decode cL_law 822 = .ok (.ireturn, 1) := by decide +kernel
theorem dL_law_823 : decode cL_law 823 = .ok (.aload_n 1, 1) := by decide +kernel
theorem dL_law_824 : decode cL_law 824 = .ok (.aload_n 0, 1) := by decide +kernel
theorem dL_law_825 : decode cL_law 825 = .ok (.iload_n 3, 1) := by decide +kernel
theorem dL_law_826 : decode cL_law 826 = .ok (.iconst 1, 1) := by decide +kernel
theorem dL_law_827 : decode cL_law 827 = .ok (.iadd, 1) := by decide +kernel
theorem dL_law_828 : decode cL_law 828 = .ok (.iaload, 1) := by decide +kernel
theorem dL_law_829 : decode cL_law 829 = .ok (.invokevirtual 114, 3) := by decide +kernel
theorem dL_law_832 : decode cL_law 832 = .ok (.aload_n 2, 1) := by decide +kernel
theorem dL_law_833 : decode cL_law 833 = .ok (.aload_n 0, 1) := by decide +kernel
theorem dL_law_834 : decode cL_law 834 = .ok (.iload_n 3, 1) := by decide +kernel
theorem dL_law_835 : decode cL_law 835 = .ok (.iconst 1, 1) := by decide +kernel
theorem dL_law_836 : decode cL_law 836 = .ok (.iadd, 1) := by decide +kernel
theorem dL_law_837 : decode cL_law 837 = .ok (.iaload, 1) := by decide +kernel
theorem dL_law_838 : decode cL_law 838 = .ok (.invokevirtual 117, 3) := by decide +kernel
theorem dL_law_841 : decode cL_law 841 = .ok (.if_icmp .eq 329, 3) := by decide +kernel
theorem dL_law_844 : decode cL_law 844 = .ok (.iconst 0, 1) := by decide +kernel
theorem dL_law_845 : decode cL_law 845 = .ok (.ireturn, 1) := by decide +kernel
theorem dL_law_846 : decode cL_law 846 = .ok (.aload_n 1, 1) := by decide +kernel
theorem dL_law_847 : decode cL_law 847 = .ok (.invokevirtual 118, 3) := by decide +kernel
theorem dL_law_850 : decode cL_law 850 = .ok (.aload_n 2, 1) := by decide +kernel
