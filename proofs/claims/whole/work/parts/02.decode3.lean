theorem dX11_births_93 : decode cX11_births 93 = .ok (.lreturn, 1) := by decide +kernel
theorem dX11_births_94 : decode cX11_births 94 = .ok (.lconst 0, 1) := by decide +kernel
theorem dX11_births_95 : decode cX11_births 95 = .ok (.lstore 7, 2) := by decide +kernel
theorem dX11_births_97 : decode cX11_births 97 = .ok (.lconst 1, 1) := by decide +kernel
theorem dX11_births_98 : decode cX11_births 98 = .ok (.lstore 9, 2) := by decide +kernel
theorem dX11_births_100 : decode cX11_births 100 = .ok (.iconst 0, 1) := by decide +kernel
theorem dX11_births_101 : decode cX11_births 101 = .ok (.istore 11, 2) := by decide +kernel
theorem dX11_births_103 : decode cX11_births 103 = .ok (.iload 11, 2) := by decide +kernel
theorem dX11_births_105 : decode cX11_births 105 = .ok (.iload_n 2, 1) := by decide +kernel
theorem dX11_births_106 : decode cX11_births 106 = .ok (.if_icmp .ge 17, 3) := by decide +kernel
theorem dX11_births_109 : decode cX11_births 109 = .ok (.lload 9, 2) := by decide +kernel
theorem dX11_births_111 : decode cX11_births 111 = .ok (.iload 4, 2) := by decide +kernel
theorem dX11_births_113 : decode cX11_births 113 = .ok (.i2l, 1) := by decide +kernel
theorem dX11_births_114 : decode cX11_births 114 = .ok (.lmul, 1) := by decide +kernel
theorem dX11_births_115 : decode cX11_births 115 = .ok (.lstore 9, 2) := by decide +kernel
theorem dX11_births_117 : decode cX11_births 117 = .ok (.iinc 11 1, 3) := by decide +kernel
theorem dX11_births_120 : decode cX11_births 120 = .ok (.goto (-17), 3) := by decide +kernel
theorem dX11_births_123 : decode cX11_births 123 = .ok (.aload_n 0, 1) := by decide +kernel
theorem dX11_births_124 : decode cX11_births 124 = .ok (.invokevirtual 194, 3) := by decide +kernel
theorem dX11_births_127 : decode cX11_births 127 = .ok (.iconst 0, 1) := by decide +kernel
theorem dX11_births_128 : decode cX11_births 128 = .ok (.istore 11, 2) := by decide +kernel
theorem dX11_births_130 : decode cX11_births 130 = .ok (.iload 11, 2) := by decide +kernel
theorem dX11_births_132 : decode cX11_births 132 = .ok (.iconst 1, 1) := by decide +kernel
theorem dX11_births_133 : decode cX11_births 133 = .ok (.iload_n 2, 1) := by decide +kernel
theorem dX11_births_134 : decode cX11_births 134 = .ok (.ishl, 1) := by decide +kernel
theorem dX11_births_135 : decode cX11_births 135 = .ok (.if_icmp .ge 106, 3) := by decide +kernel
theorem dX11_births_138 : decode cX11_births 138 = .ok (.lconst 1, 1) := by decide +kernel
theorem dX11_births_139 : decode cX11_births 139 = .ok (.lstore 12, 2) := by decide +kernel
theorem dX11_births_141 : decode cX11_births 141 = .ok (.iconst 0, 1) := by decide +kernel
theorem dX11_births_142 : decode cX11_births 142 = .ok (.istore 14, 2) := by decide +kernel
theorem dX11_births_144 : decode cX11_births 144 = .ok (.iload 14, 2) := by decide +kernel
theorem dX11_births_146 : decode cX11_births 146 = .ok (.iload_n 2, 1) := by decide +kernel
theorem dX11_births_147 : decode cX11_births 147 = .ok (.if_icmp .ge 64, 3) := by decide +kernel
theorem dX11_births_150 : decode cX11_births 150 = .ok (.aload_n 0, 1) := by decide +kernel
theorem dX11_births_151 : decode cX11_births 151 = .ok (.iload_n 1, 1) := by decide +kernel
theorem dX11_births_152 : decode cX11_births 152 = .ok (.invokevirtual 125, 3) := by decide +kernel
theorem dX11_births_155 : decode cX11_births 155 = .ok (.aload_n 0, 1) := by decide +kernel
theorem dX11_births_156 : decode cX11_births 156 = .ok (.getfield 7, 3) := by decide +kernel
theorem dX11_births_159 : decode cX11_births 159 = .ok (.iload_n 1, 1) := by decide +kernel
theorem dX11_births_160 : decode cX11_births 160 = .ok (.aload_n 0, 1) := by decide +kernel
theorem dX11_births_161 : decode cX11_births 161 = .ok (.getfield 7, 3) := by decide +kernel
theorem dX11_births_164 : decode cX11_births 164 = .ok (.iload_n 1, 1) := by decide +kernel
theorem dX11_births_165 : decode cX11_births 165 = .ok (.iaload, 1) := by decide +kernel
theorem dX11_births_166 : decode cX11_births 166 = .ok (.iload 11, 2) := by decide +kernel
theorem dX11_births_168 : decode cX11_births 168 = .ok (.iload 14, 2) := by decide +kernel
theorem dX11_births_170 : decode cX11_births 170 = .ok (.ishr, 1) := by decide +kernel
theorem dX11_births_171 : decode cX11_births 171 = .ok (.iconst 1, 1) := by decide +kernel
theorem dX11_births_172 : decode cX11_births 172 = .ok (.iand, 1) := by decide +kernel
theorem dX11_births_173 : decode cX11_births 173 = .ok (.iadd, 1) := by decide +kernel
theorem dX11_births_174 : decode cX11_births 174 = .ok (.iconst 1, 1) := by decide +kernel
theorem dX11_births_175 : decode cX11_births 175 = .ok (.bipush 20, 2) := by decide +kernel
theorem dX11_births_177 : decode cX11_births 177 = .ok (.invokestatic 97, 3) := by decide +kernel
theorem dX11_births_180 : decode cX11_births 180 = .ok (.iastore, 1) := by decide +kernel
theorem dX11_births_181 : decode cX11_births 181 = .ok (.lload 12, 2) := by decide +kernel
theorem dX11_births_183 : decode cX11_births 183 = .ok (.iload 11, 2) := by decide +kernel
theorem dX11_births_185 : decode cX11_births 185 = .ok (.iload 14, 2) := by decide +kernel
theorem dX11_births_187 : decode cX11_births 187 = .ok (.invokestatic 258, 3) := by decide +kernel
theorem dX11_births_190 : decode cX11_births 190 = .ok (.ifCond .eq 7, 3) := by decide +kernel
theorem dX11_births_193 : decode cX11_births 193 = .ok (.lconst 1, 1) := by decide +kernel
theorem dX11_births_194 : decode cX11_births 194 = .ok (.goto 8, 3) := by decide +kernel
theorem dX11_births_197 : decode cX11_births 197 = .ok (.iload 4, 2) := by decide +kernel
theorem dX11_births_199 : decode cX11_births 199 = .ok (.iconst 1, 1) := by decide +kernel
theorem dX11_births_200 : decode cX11_births 200 = .ok (.isub, 1) := by decide +kernel
theorem dX11_births_201 : decode cX11_births 201 = .ok (.i2l, 1) := by decide +kernel
theorem dX11_births_202 : decode cX11_births 202 = .ok (.lmul, 1) := by decide +kernel
theorem dX11_births_203 : decode cX11_births 203 = .ok (.lstore 12, 2) := by decide +kernel
theorem dX11_births_205 : decode cX11_births 205 = .ok (.iinc 14 1, 3) := by decide +kernel
theorem dX11_births_208 : decode cX11_births 208 = .ok (.goto (-64), 3) := by decide +kernel
theorem dX11_births_211 : decode cX11_births 211 = .ok (.lload 7, 2) := by decide +kernel
theorem dX11_births_213 : decode cX11_births 213 = .ok (.aload_n 0, 1) := by decide +kernel
theorem dX11_births_214 : decode cX11_births 214 = .ok (.iload_n 1, 1) := by decide +kernel
theorem dX11_births_215 : decode cX11_births 215 = .ok (.invokevirtual 227, 3) := by decide +kernel
theorem dX11_births_218 : decode cX11_births 218 = .ok (.iload_n 3, 1) := by decide +kernel
theorem dX11_births_219 : decode cX11_births 219 = .ok (.if_icmp .gt 8, 3) := by decide +kernel
theorem dX11_births_222 : decode cX11_births 222 = .ok (.lload 12, 2) := by decide +kernel
theorem dX11_births_224 : decode cX11_births 224 = .ok (.goto 4, 3) := by decide +kernel
theorem dX11_births_227 : decode cX11_births 227 = .ok (.lconst 0, 1) := by decide +kernel
theorem dX11_births_228 : decode cX11_births 228 = .ok (.ladd, 1) := by decide +kernel
theorem dX11_births_229 : decode cX11_births 229 = .ok (.lstore 7, 2) := by decide +kernel
theorem dX11_births_231 : decode cX11_births 231 = .ok (.aload_n 0, 1) := by decide +kernel
theorem dX11_births_232 : decode cX11_births 232 = .ok (.invokevirtual 200, 3) := by decide +kernel
theorem dX11_births_235 : decode cX11_births 235 = .ok (.iinc 11 1, 3) := by decide +kernel
theorem dX11_births_238 : decode cX11_births 238 = .ok (.goto (-108), 3) := by decide +kernel
theorem dX11_births_241 : decode cX11_births 241 = .ok (.lload 7, 2) := by decide +kernel
theorem dX11_births_243 : decode cX11_births 243 = .ok (.lload 9, 2) := by decide +kernel
theorem dX11_births_245 : decode cX11_births 245 = .ok (.iload 5, 2) := by decide +kernel
theorem dX11_births_247 : decode cX11_births 247 = .ok (.invokestatic 285, 3) := by decide +kernel
theorem dX11_births_250 : decode cX11_births 250 = .ok (.lreturn, 1) := by decide +kernel
theorem dX11_oldest_0 : decode cX11_oldest 0 = .ok (.aload_n 0, 1) := by decide +kernel
theorem dX11_oldest_1 : decode cX11_oldest 1 = .ok (.iconst 0, 1) := by decide +kernel
theorem dX11_oldest_2 : decode cX11_oldest 2 = .ok (.putfield 83, 3) := by decide +kernel
theorem dX11_oldest_5 : decode cX11_oldest 5 = .ok (.iload_n 1, 1) := by decide +kernel
theorem dX11_oldest_6 : decode cX11_oldest 6 = .ok (.i2l, 1) := by decide +kernel
theorem dX11_oldest_7 : decode cX11_oldest 7 = .ok (.lconst 0, 1) := by decide +kernel
theorem dX11_oldest_8 : decode cX11_oldest 8 = .ok (.lconst 1, 1) := by decide +kernel
theorem dX11_oldest_9 : decode cX11_oldest 9 = .ok (.invokestatic 89, 3) := by decide +kernel
theorem dX11_oldest_12 : decode cX11_oldest 12 = .ok (.ifCond .ne 10, 3) := by decide +kernel
theorem dX11_oldest_15 : decode cX11_oldest 15 = .ok (.aload_n 0, 1) := by decide +kernel
theorem dX11_oldest_16 : decode cX11_oldest 16 = .ok (.bipush (-2), 2) := by decide +kernel
theorem dX11_oldest_18 : decode cX11_oldest 18 = .ok (.invokevirtual 134, 3) := by decide +kernel
theorem dX11_oldest_21 : decode cX11_oldest 21 = .ok (.ireturn, 1) := by decide +kernel
theorem dX11_oldest_22 : decode cX11_oldest 22 = .ok (.bipush (-9), 2) := by decide +kernel
theorem dX11_oldest_24 : decode cX11_oldest 24 = .ok (.istore_n 2, 1) := by decide +kernel
theorem dX11_oldest_25 : decode cX11_oldest 25 = .ok (.iconst 0, 1) := by decide +kernel
theorem dX11_oldest_26 : decode cX11_oldest 26 = .ok (.istore_n 3, 1) := by decide +kernel
theorem dX11_oldest_27 : decode cX11_oldest 27 = .ok (.iload_n 3, 1) := by decide +kernel
theorem dX11_oldest_28 : decode cX11_oldest 28 = .ok (.aload_n 0, 1) := by decide +kernel
theorem dX11_oldest_29 : decode cX11_oldest 29 = .ok (.getfield 93, 3) := by decide +kernel
theorem dX11_oldest_32 : decode cX11_oldest 32 = .ok (.if_icmp .ge 89, 3) := by decide +kernel
theorem dX11_oldest_35 : decode cX11_oldest 35 = .ok (.aload_n 0, 1) := by decide +kernel
theorem dX11_oldest_36 : decode cX11_oldest 36 = .ok (.getfield 35, 3) := by decide +kernel
theorem dX11_oldest_39 : decode cX11_oldest 39 = .ok (.iload_n 3, 1) := by decide +kernel
theorem dX11_oldest_40 : decode cX11_oldest 40 = .ok (.iaload, 1) := by decide +kernel
theorem dX11_oldest_41 : decode cX11_oldest 41 = .ok (.ifCond .le 7, 3) := by decide +kernel
theorem dX11_oldest_44 : decode cX11_oldest 44 = .ok (.iconst 1, 1) := by decide +kernel
theorem dX11_oldest_45 : decode cX11_oldest 45 = .ok (.goto 4, 3) := by decide +kernel
theorem dX11_oldest_48 : decode cX11_oldest 48 = .ok (.iconst 0, 1) := by decide +kernel
theorem dX11_oldest_49 : decode cX11_oldest 49 = .ok (.istore 4, 2) := by decide +kernel
theorem dX11_oldest_51 : decode cX11_oldest 51 = .ok (.iload 4, 2) := by decide +kernel
theorem dX11_oldest_53 : decode cX11_oldest 53 = .ok (.ifCond .eq 48, 3) := by decide +kernel
theorem dX11_oldest_56 : decode cX11_oldest 56 = .ok (.iload_n 2, 1) := by decide +kernel
theorem dX11_oldest_57 : decode cX11_oldest 57 = .ok (.ifCond .lt 40, 3) := by decide +kernel
theorem dX11_oldest_60 : decode cX11_oldest 60 = .ok (.iload_n 1, 1) := by decide +kernel
theorem dX11_oldest_61 : decode cX11_oldest 61 = .ok (.ifCond .ne 21, 3) := by decide +kernel
theorem dX11_oldest_64 : decode cX11_oldest 64 = .ok (.aload_n 0, 1) := by decide +kernel
theorem dX11_oldest_65 : decode cX11_oldest 65 = .ok (.getfield 35, 3) := by decide +kernel
theorem dX11_oldest_68 : decode cX11_oldest 68 = .ok (.iload_n 3, 1) := by decide +kernel
theorem dX11_oldest_69 : decode cX11_oldest 69 = .ok (.iaload, 1) := by decide +kernel
theorem dX11_oldest_70 : decode cX11_oldest 70 = .ok (.aload_n 0, 1) := by decide +kernel
theorem dX11_oldest_71 : decode cX11_oldest 71 = .ok (.getfield 35, 3) := by decide +kernel
theorem dX11_oldest_74 : decode cX11_oldest 74 = .ok (.iload_n 2, 1) := by decide +kernel
theorem dX11_oldest_75 : decode cX11_oldest 75 = .ok (.iaload, 1) := by decide +kernel
theorem dX11_oldest_76 : decode cX11_oldest 76 = .ok (.if_icmp .ge 25, 3) := by decide +kernel
theorem dX11_oldest_79 : decode cX11_oldest 79 = .ok (.goto 18, 3) := by decide +kernel
theorem dX11_oldest_82 : decode cX11_oldest 82 = .ok (.aload_n 0, 1) := by decide +kernel
theorem dX11_oldest_83 : decode cX11_oldest 83 = .ok (.getfield 35, 3) := by decide +kernel
theorem dX11_oldest_86 : decode cX11_oldest 86 = .ok (.iload_n 3, 1) := by decide +kernel
theorem dX11_oldest_87 : decode cX11_oldest 87 = .ok (.iaload, 1) := by decide +kernel
theorem dX11_oldest_88 : decode cX11_oldest 88 = .ok (.aload_n 0, 1) := by decide +kernel
theorem dX11_oldest_89 : decode cX11_oldest 89 = .ok (.getfield 35, 3) := by decide +kernel
theorem dX11_oldest_92 : decode cX11_oldest 92 = .ok (.iload_n 2, 1) := by decide +kernel
theorem dX11_oldest_93 : decode cX11_oldest 93 = .ok (.iaload, 1) := by decide +kernel
theorem dX11_oldest_94 : decode cX11_oldest 94 = .ok (.if_icmp .le 7, 3) := by decide +kernel
theorem dX11_oldest_97 : decode cX11_oldest 97 = .ok (.iconst 1, 1) := by decide +kernel
theorem dX11_oldest_98 : decode cX11_oldest 98 = .ok (.goto 4, 3) := by decide +kernel
theorem dX11_oldest_101 : decode cX11_oldest 101 = .ok (.iconst 0, 1) := by decide +kernel
theorem dX11_oldest_102 : decode cX11_oldest 102 = .ok (.istore 4, 2) := by decide +kernel
theorem dX11_oldest_104 : decode cX11_oldest 104 = .ok (.iload 4, 2) := by decide +kernel
theorem dX11_oldest_106 : decode cX11_oldest 106 = .ok (.ifCond .eq 7, 3) := by decide +kernel
theorem dX11_oldest_109 : decode cX11_oldest 109 = .ok (.iload_n 3, 1) := by decide +kernel
theorem dX11_oldest_110 : decode cX11_oldest 110 = .ok (.goto 4, 3) := by decide +kernel
theorem dX11_oldest_113 : decode cX11_oldest 113 = .ok (.iload_n 2, 1) := by decide +kernel
theorem dX11_oldest_114 : decode cX11_oldest 114 = .ok (.istore_n 2, 1) := by decide +kernel
theorem dX11_oldest_115 : decode cX11_oldest 115 = .ok (.iinc 3 1, 3) := by decide +kernel
theorem dX11_oldest_118 : decode cX11_oldest 118 = .ok (.goto (-91), 3) := by decide +kernel
theorem dX11_oldest_121 : decode cX11_oldest 121 = .ok (.iload_n 2, 1) := by decide +kernel
theorem dX11_oldest_122 : decode cX11_oldest 122 = .ok (.ireturn, 1) := by decide +kernel
theorem dX11_ordersOf_0 : decode cX11_ordersOf 0 = .ok (.iconst 1, 1) := by decide +kernel
theorem dX11_ordersOf_1 : decode cX11_ordersOf 1 = .ok (.istore_n 1, 1) := by decide +kernel
theorem dX11_ordersOf_2 : decode cX11_ordersOf 2 = .ok (.iconst 2, 1) := by decide +kernel
theorem dX11_ordersOf_3 : decode cX11_ordersOf 3 = .ok (.istore_n 2, 1) := by decide +kernel
theorem dX11_ordersOf_4 : decode cX11_ordersOf 4 = .ok (.iload_n 2, 1) := by decide +kernel
theorem dX11_ordersOf_5 : decode cX11_ordersOf 5 = .ok (.iload_n 0, 1) := by decide +kernel
theorem dX11_ordersOf_6 : decode cX11_ordersOf 6 = .ok (.if_icmp .gt 13, 3) := by decide +kernel
theorem dX11_ordersOf_9 : decode cX11_ordersOf 9 = .ok (.iload_n 1, 1) := by decide +kernel
theorem dX11_ordersOf_10 : decode cX11_ordersOf 10 = .ok (.iload_n 2, 1) := by decide +kernel
theorem dX11_ordersOf_11 : decode cX11_ordersOf 11 = .ok (.imul, 1) := by decide +kernel
theorem dX11_ordersOf_12 : decode cX11_ordersOf 12 = .ok (.istore_n 1, 1) := by decide +kernel
theorem dX11_ordersOf_13 : decode cX11_ordersOf 13 = .ok (.iinc 2 1, 3) := by decide +kernel
theorem dX11_ordersOf_16 : decode cX11_ordersOf 16 = .ok (.goto (-12), 3) := by decide +kernel
theorem dX11_ordersOf_19 : decode cX11_ordersOf 19 = .ok (.iload_n 1, 1) := by decide +kernel
theorem dX11_ordersOf_20 : decode cX11_ordersOf 20 = .ok (.ireturn, 1) := by decide +kernel
theorem dX11_layOrder_0 : decode cX11_layOrder 0 = .ok (.iload_n 1, 1) := by decide +kernel
theorem dX11_layOrder_1 : decode cX11_layOrder 1 = .ok (.istore_n 3, 1) := by decide +kernel
theorem dX11_layOrder_2 : decode cX11_layOrder 2 = .ok (.iconst 0, 1) := by decide +kernel
theorem dX11_layOrder_3 : decode cX11_layOrder 3 = .ok (.istore 4, 2) := by decide +kernel
theorem dX11_layOrder_5 : decode cX11_layOrder 5 = .ok (.iconst 0, 1) := by decide +kernel
theorem dX11_layOrder_6 : decode cX11_layOrder 6 = .ok (.istore 5, 2) := by decide +kernel
theorem dX11_layOrder_8 : decode cX11_layOrder 8 = .ok (.iload 5, 2) := by decide +kernel
theorem dX11_layOrder_10 : decode cX11_layOrder 10 = .ok (.iload_n 2, 1) := by decide +kernel
theorem dX11_layOrder_11 : decode cX11_layOrder 11 = .ok (.if_icmp .ge 93, 3) := by decide +kernel
theorem dX11_layOrder_14 : decode cX11_layOrder 14 = .ok (.iload_n 2, 1) := by decide +kernel
theorem dX11_layOrder_15 : decode cX11_layOrder 15 = .ok (.iconst 1, 1) := by decide +kernel
theorem dX11_layOrder_16 : decode cX11_layOrder 16 = .ok (.isub, 1) := by decide +kernel
theorem dX11_layOrder_17 : decode cX11_layOrder 17 = .ok (.iload 5, 2) := by decide +kernel
theorem dX11_layOrder_19 : decode cX11_layOrder 19 = .ok (.isub, 1) := by decide +kernel
theorem dX11_layOrder_20 : decode cX11_layOrder 20 = .ok (.invokestatic 298, 3) := by decide +kernel
theorem dX11_layOrder_23 : decode cX11_layOrder 23 = .ok (.istore 6, 2) := by decide +kernel
theorem dX11_layOrder_25 : decode cX11_layOrder 25 = .ok (.iload_n 3, 1) := by decide +kernel
theorem dX11_layOrder_26 : decode cX11_layOrder 26 = .ok (.iload 6, 2) := by decide +kernel
theorem dX11_layOrder_28 : decode cX11_layOrder 28 = .ok (.idiv, 1) := by decide +kernel
theorem dX11_layOrder_29 : decode cX11_layOrder 29 = .ok (.istore 7, 2) := by decide +kernel
theorem dX11_layOrder_31 : decode cX11_layOrder 31 = .ok (.iload_n 3, 1) := by decide +kernel
theorem dX11_layOrder_32 : decode cX11_layOrder 32 = .ok (.iload 6, 2) := by decide +kernel
theorem dX11_layOrder_34 : decode cX11_layOrder 34 = .ok (.irem, 1) := by decide +kernel
theorem dX11_layOrder_35 : decode cX11_layOrder 35 = .ok (.istore_n 3, 1) := by decide +kernel
theorem dX11_layOrder_36 : decode cX11_layOrder 36 = .ok (.iconst 0, 1) := by decide +kernel
theorem dX11_layOrder_37 : decode cX11_layOrder 37 = .ok (.istore 8, 2) := by decide +kernel
theorem dX11_layOrder_39 : decode cX11_layOrder 39 = .ok (.iload 4, 2) := by decide +kernel
theorem dX11_layOrder_41 : decode cX11_layOrder 41 = .ok (.iload 8, 2) := by decide +kernel
theorem dX11_layOrder_43 : decode cX11_layOrder 43 = .ok (.invokestatic 258, 3) := by decide +kernel
theorem dX11_layOrder_46 : decode cX11_layOrder 46 = .ok (.ifCond .ne 8, 3) := by decide +kernel
theorem dX11_layOrder_49 : decode cX11_layOrder 49 = .ok (.iload 7, 2) := by decide +kernel
theorem dX11_layOrder_51 : decode cX11_layOrder 51 = .ok (.ifCond .le 29, 3) := by decide +kernel
theorem dX11_layOrder_54 : decode cX11_layOrder 54 = .ok (.iload 7, 2) := by decide +kernel
theorem dX11_layOrder_56 : decode cX11_layOrder 56 = .ok (.iload 4, 2) := by decide +kernel
theorem dX11_layOrder_58 : decode cX11_layOrder 58 = .ok (.iload 8, 2) := by decide +kernel
theorem dX11_layOrder_60 : decode cX11_layOrder 60 = .ok (.invokestatic 258, 3) := by decide +kernel
theorem dX11_layOrder_63 : decode cX11_layOrder 63 = .ok (.ifCond .eq 7, 3) := by decide +kernel
theorem dX11_layOrder_66 : decode cX11_layOrder 66 = .ok (.iconst 0, 1) := by decide +kernel
theorem dX11_layOrder_67 : decode cX11_layOrder 67 = .ok (.goto 4, 3) := by decide +kernel
theorem dX11_layOrder_70 : decode cX11_layOrder 70 = .ok (.iconst 1, 1) := by decide +kernel
theorem dX11_layOrder_71 : decode cX11_layOrder 71 = .ok (.isub, 1) := by decide +kernel
theorem dX11_layOrder_72 : decode cX11_layOrder 72 = .ok (.istore 7, 2) := by decide +kernel
theorem dX11_layOrder_74 : decode cX11_layOrder 74 = .ok (.iinc 8 1, 3) := by decide +kernel
theorem dX11_layOrder_77 : decode cX11_layOrder 77 = .ok (.goto (-38), 3) := by decide +kernel
theorem dX11_layOrder_80 : decode cX11_layOrder 80 = .ok (.aload_n 0, 1) := by decide +kernel
theorem dX11_layOrder_81 : decode cX11_layOrder 81 = .ok (.getfield 77, 3) := by decide +kernel
theorem dX11_layOrder_84 : decode cX11_layOrder 84 = .ok (.iload 5, 2) := by decide +kernel
theorem dX11_layOrder_86 : decode cX11_layOrder 86 = .ok (.iload 8, 2) := by decide +kernel
theorem dX11_layOrder_88 : decode cX11_layOrder 88 = .ok (.iastore, 1) := by decide +kernel
theorem dX11_layOrder_89 : decode cX11_layOrder 89 = .ok (.iload 4, 2) := by decide +kernel
theorem dX11_layOrder_91 : decode cX11_layOrder 91 = .ok (.iconst 1, 1) := by decide +kernel
theorem dX11_layOrder_92 : decode cX11_layOrder 92 = .ok (.iload 8, 2) := by decide +kernel
theorem dX11_layOrder_94 : decode cX11_layOrder 94 = .ok (.ishl, 1) := by decide +kernel
theorem dX11_layOrder_95 : decode cX11_layOrder 95 = .ok (.ior, 1) := by decide +kernel
theorem dX11_layOrder_96 : decode cX11_layOrder 96 = .ok (.istore 4, 2) := by decide +kernel
theorem dX11_layOrder_98 : decode cX11_layOrder 98 = .ok (.iinc 5 1, 3) := by decide +kernel
theorem dX11_layOrder_101 : decode cX11_layOrder 101 = .ok (.goto (-93), 3) := by decide +kernel
theorem dX11_layOrder_104 : decode cX11_layOrder 104 = .ok (.return_, 1) := by decide +kernel
theorem dX11_order_0 : decode cX11_order 0 = .ok (.aload_n 0, 1) := by decide +kernel
theorem dX11_order_1 : decode cX11_order 1 = .ok (.iconst 0, 1) := by decide +kernel
theorem dX11_order_2 : decode cX11_order 2 = .ok (.putfield 83, 3) := by decide +kernel
theorem dX11_order_5 : decode cX11_order 5 = .ok (.iconst 0, 1) := by decide +kernel
theorem dX11_order_6 : decode cX11_order 6 = .ok (.istore_n 2, 1) := by decide +kernel
theorem dX11_order_7 : decode cX11_order 7 = .ok (.iconst 0, 1) := by decide +kernel
theorem dX11_order_8 : decode cX11_order 8 = .ok (.istore_n 3, 1) := by decide +kernel
theorem dX11_order_9 : decode cX11_order 9 = .ok (.iload_n 3, 1) := by decide +kernel
theorem dX11_order_10 : decode cX11_order 10 = .ok (.aload_n 0, 1) := by decide +kernel
theorem dX11_order_11 : decode cX11_order 11 = .ok (.getfield 93, 3) := by decide +kernel
theorem dX11_order_14 : decode cX11_order 14 = .ok (.if_icmp .ge 28, 3) := by decide +kernel
theorem dX11_order_17 : decode cX11_order 17 = .ok (.aload_n 0, 1) := by decide +kernel
theorem dX11_order_18 : decode cX11_order 18 = .ok (.getfield 35, 3) := by decide +kernel
theorem dX11_order_21 : decode cX11_order 21 = .ok (.iload_n 3, 1) := by decide +kernel
theorem dX11_order_22 : decode cX11_order 22 = .ok (.iaload, 1) := by decide +kernel
theorem dX11_order_23 : decode cX11_order 23 = .ok (.ifCond .ne 13, 3) := by decide +kernel
theorem dX11_order_26 : decode cX11_order 26 = .ok (.aload_n 0, 1) := by decide +kernel
theorem dX11_order_27 : decode cX11_order 27 = .ok (.getfield 80, 3) := by decide +kernel
theorem dX11_order_30 : decode cX11_order 30 = .ok (.iload_n 2, 1) := by decide +kernel
theorem dX11_order_31 : decode cX11_order 31 = .ok (.iload_n 3, 1) := by decide +kernel
theorem dX11_order_32 : decode cX11_order 32 = .ok (.iastore, 1) := by decide +kernel
theorem dX11_order_33 : decode cX11_order 33 = .ok (.iinc 2 1, 3) := by decide +kernel
theorem dX11_order_36 : decode cX11_order 36 = .ok (.iinc 3 1, 3) := by decide +kernel
theorem dX11_order_39 : decode cX11_order 39 = .ok (.goto (-30), 3) := by decide +kernel
theorem dX11_order_42 : decode cX11_order 42 = .ok (.iload_n 1, 1) := by decide +kernel
theorem dX11_order_43 : decode cX11_order 43 = .ok (.iconst (-1), 1) := by decide +kernel
theorem dX11_order_44 : decode cX11_order 44 = .ok (.if_icmp .ge 8, 3) := by decide +kernel
theorem dX11_order_47 : decode cX11_order 47 = .ok (.bipush (-4), 2) := by decide +kernel
theorem dX11_order_49 : decode cX11_order 49 = .ok (.goto 14, 3) := by decide +kernel
theorem dX11_order_52 : decode cX11_order 52 = .ok (.iload_n 2, 1) := by decide +kernel
theorem dX11_order_53 : decode cX11_order 53 = .ok (.iconst 5, 1) := by decide +kernel
theorem dX11_order_54 : decode cX11_order 54 = .ok (.if_icmp .le 8, 3) := by decide +kernel
theorem dX11_order_57 : decode cX11_order 57 = .ok (.bipush (-3), 2) := by decide +kernel
theorem dX11_order_59 : decode cX11_order 59 = .ok (.goto 4, 3) := by decide +kernel
theorem dX11_order_62 : decode cX11_order 62 = .ok (.iconst 0, 1) := by decide +kernel
theorem dX11_order_63 : decode cX11_order 63 = .ok (.istore_n 3, 1) := by decide +kernel
theorem dX11_order_64 : decode cX11_order 64 = .ok (.iload_n 3, 1) := by decide +kernel
theorem dX11_order_65 : decode cX11_order 65 = .ok (.ifCond .ge 9, 3) := by decide +kernel
theorem dX11_order_68 : decode cX11_order 68 = .ok (.aload_n 0, 1) := by decide +kernel
theorem dX11_order_69 : decode cX11_order 69 = .ok (.iload_n 3, 1) := by decide +kernel
theorem dX11_order_70 : decode cX11_order 70 = .ok (.invokevirtual 134, 3) := by decide +kernel
theorem dX11_order_73 : decode cX11_order 73 = .ok (.ireturn, 1) := by decide +kernel
theorem dX11_order_74 : decode cX11_order 74 = .ok (.iconst 0, 1) := by decide +kernel
theorem dX11_order_75 : decode cX11_order 75 = .ok (.istore 4, 2) := by decide +kernel
theorem dX11_order_77 : decode cX11_order 77 = .ok (.iconst (-1), 1) := by decide +kernel
theorem dX11_order_78 : decode cX11_order 78 = .ok (.istore 5, 2) := by decide +kernel
theorem dX11_order_80 : decode cX11_order 80 = .ok (.iload_n 2, 1) := by decide +kernel
theorem dX11_order_81 : decode cX11_order 81 = .ok (.invokestatic 298, 3) := by decide +kernel
theorem dX11_order_84 : decode cX11_order 84 = .ok (.istore 6, 2) := by decide +kernel
theorem dX11_order_86 : decode cX11_order 86 = .ok (.aload_n 0, 1) := by decide +kernel
theorem dX11_order_87 : decode cX11_order 87 = .ok (.invokevirtual 194, 3) := by decide +kernel
theorem dX11_order_90 : decode cX11_order 90 = .ok (.iconst 0, 1) := by decide +kernel
theorem dX11_order_91 : decode cX11_order 91 = .ok (.istore 7, 2) := by decide +kernel
theorem dX11_order_93 : decode cX11_order 93 = .ok (.iload 7, 2) := by decide +kernel
theorem dX11_order_95 : decode cX11_order 95 = .ok (.iload 6, 2) := by decide +kernel
theorem dX11_order_97 : decode cX11_order 97 = .ok (.if_icmp .ge 103, 3) := by decide +kernel
theorem dX11_order_100 : decode cX11_order 100 = .ok (.aload_n 0, 1) := by decide +kernel
theorem dX11_order_101 : decode cX11_order 101 = .ok (.iload 7, 2) := by decide +kernel
theorem dX11_order_103 : decode cX11_order 103 = .ok (.iload_n 2, 1) := by decide +kernel
theorem dX11_order_104 : decode cX11_order 104 = .ok (.invokevirtual 301, 3) := by decide +kernel
theorem dX11_order_107 : decode cX11_order 107 = .ok (.iconst 0, 1) := by decide +kernel
theorem dX11_order_108 : decode cX11_order 108 = .ok (.istore 8, 2) := by decide +kernel
theorem dX11_order_110 : decode cX11_order 110 = .ok (.iload 8, 2) := by decide +kernel
theorem dX11_order_112 : decode cX11_order 112 = .ok (.iload_n 2, 1) := by decide +kernel
theorem dX11_order_113 : decode cX11_order 113 = .ok (.if_icmp .ge 29, 3) := by decide +kernel
theorem dX11_order_116 : decode cX11_order 116 = .ok (.aload_n 0, 1) := by decide +kernel
theorem dX11_order_117 : decode cX11_order 117 = .ok (.aload_n 0, 1) := by decide +kernel
theorem dX11_order_118 : decode cX11_order 118 = .ok (.getfield 80, 3) := by decide +kernel
theorem dX11_order_121 : decode cX11_order 121 = .ok (.aload_n 0, 1) := by decide +kernel
theorem dX11_order_122 : decode cX11_order 122 = .ok (.getfield 77, 3) := by decide +kernel
theorem dX11_order_125 : decode cX11_order 125 = .ok (.iload 8, 2) := by decide +kernel
theorem dX11_order_127 : decode cX11_order 127 = .ok (.iaload, 1) := by decide +kernel
theorem dX11_order_128 : decode cX11_order 128 = .ok (.iaload, 1) := by decide +kernel
theorem dX11_order_129 : decode cX11_order 129 = .ok (.invokevirtual 180, 3) := by decide +kernel
theorem dX11_order_132 : decode cX11_order 132 = .ok (.aload_n 0, 1) := by decide +kernel
theorem dX11_order_133 : decode cX11_order 133 = .ok (.invokevirtual 131, 3) := by decide +kernel
theorem dX11_order_136 : decode cX11_order 136 = .ok (.iinc 8 1, 3) := by decide +kernel
theorem dX11_order_139 : decode cX11_order 139 = .ok (.goto (-29), 3) := by decide +kernel
theorem dX11_order_142 : decode cX11_order 142 = .ok (.aload_n 0, 1) := by decide +kernel
theorem dX11_order_143 : decode cX11_order 143 = .ok (.invokevirtual 235, 3) := by decide +kernel
theorem dX11_order_146 : decode cX11_order 146 = .ok (.istore 8, 2) := by decide +kernel
theorem dX11_order_148 : decode cX11_order 148 = .ok (.aload_n 0, 1) := by decide +kernel
theorem dX11_order_149 : decode cX11_order 149 = .ok (.invokevirtual 200, 3) := by decide +kernel
theorem dX11_order_152 : decode cX11_order 152 = .ok (.iload 5, 2) := by decide +kernel
theorem dX11_order_154 : decode cX11_order 154 = .ok (.ifCond .lt 10, 3) := by decide +kernel
theorem dX11_order_157 : decode cX11_order 157 = .ok (.iload 8, 2) := by decide +kernel
theorem dX11_order_159 : decode cX11_order 159 = .ok (.iload 5, 2) := by decide +kernel
theorem dX11_order_161 : decode cX11_order 161 = .ok (.if_icmp .ge 8, 3) := by decide +kernel
theorem dX11_order_164 : decode cX11_order 164 = .ok (.iload 7, 2) := by decide +kernel
theorem dX11_order_166 : decode cX11_order 166 = .ok (.goto 5, 3) := by decide +kernel
theorem dX11_order_169 : decode cX11_order 169 = .ok (.iload 4, 2) := by decide +kernel
theorem dX11_order_171 : decode cX11_order 171 = .ok (.istore 4, 2) := by decide +kernel
theorem dX11_order_173 : decode cX11_order 173 = .ok (.iload 5, 2) := by decide +kernel
theorem dX11_order_175 : decode cX11_order 175 = .ok (.ifCond .lt 10, 3) := by decide +kernel
theorem dX11_order_178 : decode cX11_order 178 = .ok (.iload 8, 2) := by decide +kernel
theorem dX11_order_180 : decode cX11_order 180 = .ok (.iload 5, 2) := by decide +kernel
theorem dX11_order_182 : decode cX11_order 182 = .ok (.if_icmp .ge 8, 3) := by decide +kernel
theorem dX11_order_185 : decode cX11_order 185 = .ok (.iload 8, 2) := by decide +kernel
theorem dX11_order_187 : decode cX11_order 187 = .ok (.goto 5, 3) := by decide +kernel
theorem dX11_order_190 : decode cX11_order 190 = .ok (.iload 5, 2) := by decide +kernel
theorem dX11_order_192 : decode cX11_order 192 = .ok (.istore 5, 2) := by decide +kernel
theorem dX11_order_194 : decode cX11_order 194 = .ok (.iinc 7 1, 3) := by decide +kernel
theorem dX11_order_197 : decode cX11_order 197 = .ok (.goto (-104), 3) := by decide +kernel
theorem dX11_order_200 : decode cX11_order 200 = .ok (.iload_n 1, 1) := by decide +kernel
theorem dX11_order_201 : decode cX11_order 201 = .ok (.ifCond .ge 6, 3) := by decide +kernel
theorem dX11_order_204 : decode cX11_order 204 = .ok (.iload 5, 2) := by decide +kernel
theorem dX11_order_206 : decode cX11_order 206 = .ok (.ireturn, 1) := by decide +kernel
theorem dX11_order_207 : decode cX11_order 207 = .ok (.aload_n 0, 1) := by decide +kernel
theorem dX11_order_208 : decode cX11_order 208 = .ok (.iload 4, 2) := by decide +kernel
theorem dX11_order_210 : decode cX11_order 210 = .ok (.iload_n 2, 1) := by decide +kernel
theorem dX11_order_211 : decode cX11_order 211 = .ok (.invokevirtual 301, 3) := by decide +kernel
theorem dX11_order_214 : decode cX11_order 214 = .ok (.iload_n 1, 1) := by decide +kernel
theorem dX11_order_215 : decode cX11_order 215 = .ok (.iload_n 2, 1) := by decide +kernel
theorem dX11_order_216 : decode cX11_order 216 = .ok (.if_icmp .ge 17, 3) := by decide +kernel
theorem dX11_order_219 : decode cX11_order 219 = .ok (.aload_n 0, 1) := by decide +kernel
theorem dX11_order_220 : decode cX11_order 220 = .ok (.getfield 80, 3) := by decide +kernel
theorem dX11_order_223 : decode cX11_order 223 = .ok (.aload_n 0, 1) := by decide +kernel
theorem dX11_order_224 : decode cX11_order 224 = .ok (.getfield 77, 3) := by decide +kernel
theorem dX11_order_227 : decode cX11_order 227 = .ok (.iload_n 1, 1) := by decide +kernel
theorem dX11_order_228 : decode cX11_order 228 = .ok (.iaload, 1) := by decide +kernel
theorem dX11_order_229 : decode cX11_order 229 = .ok (.iaload, 1) := by decide +kernel
theorem dX11_order_230 : decode cX11_order 230 = .ok (.goto 5, 3) := by decide +kernel
theorem dX11_order_233 : decode cX11_order 233 = .ok (.bipush (-9), 2) := by decide +kernel
theorem dX11_order_235 : decode cX11_order 235 = .ok (.ireturn, 1) := by decide +kernel
theorem dX11_jubilee_0 : decode cX11_jubilee 0 = .ok (.aload_n 0, 1) := by decide +kernel
theorem dX11_jubilee_1 : decode cX11_jubilee 1 = .ok (.iconst 0, 1) := by decide +kernel
theorem dX11_jubilee_2 : decode cX11_jubilee 2 = .ok (.putfield 83, 3) := by decide +kernel
theorem dX11_jubilee_5 : decode cX11_jubilee 5 = .ok (.iload_n 1, 1) := by decide +kernel
theorem dX11_jubilee_6 : decode cX11_jubilee 6 = .ok (.iconst 0, 1) := by decide +kernel
theorem dX11_jubilee_7 : decode cX11_jubilee 7 = .ok (.bipush 100, 2) := by decide +kernel
theorem dX11_jubilee_9 : decode cX11_jubilee 9 = .ok (.invokestatic 238, 3) := by decide +kernel
theorem dX11_jubilee_12 : decode cX11_jubilee 12 = .ok (.ifCond .ge 15, 3) := by decide +kernel
theorem dX11_jubilee_15 : decode cX11_jubilee 15 = .ok (.aload_n 0, 1) := by decide +kernel
theorem dX11_jubilee_16 : decode cX11_jubilee 16 = .ok (.iload_n 1, 1) := by decide +kernel
theorem dX11_jubilee_17 : decode cX11_jubilee 17 = .ok (.iconst 0, 1) := by decide +kernel
theorem dX11_jubilee_18 : decode cX11_jubilee 18 = .ok (.bipush 100, 2) := by decide +kernel
theorem dX11_jubilee_20 : decode cX11_jubilee 20 = .ok (.invokestatic 238, 3) := by decide +kernel
theorem dX11_jubilee_23 : decode cX11_jubilee 23 = .ok (.invokevirtual 134, 3) := by decide +kernel
theorem dX11_jubilee_26 : decode cX11_jubilee 26 = .ok (.ireturn, 1) := by decide +kernel
theorem dX11_jubilee_27 : decode cX11_jubilee 27 = .ok (.bipush (-9), 2) := by decide +kernel
theorem dX11_jubilee_29 : decode cX11_jubilee 29 = .ok (.istore_n 2, 1) := by decide +kernel
theorem dX11_jubilee_30 : decode cX11_jubilee 30 = .ok (.ldc_w 271, 3) := by decide +kernel
theorem dX11_jubilee_33 : decode cX11_jubilee 33 = .ok (.istore_n 3, 1) := by decide +kernel
theorem dX11_jubilee_34 : decode cX11_jubilee 34 = .ok (.aload_n 0, 1) := by decide +kernel
theorem dX11_jubilee_35 : decode cX11_jubilee 35 = .ok (.invokevirtual 194, 3) := by decide +kernel
theorem dX11_jubilee_38 : decode cX11_jubilee 38 = .ok (.iconst 0, 1) := by decide +kernel
theorem dX11_jubilee_39 : decode cX11_jubilee 39 = .ok (.istore 4, 2) := by decide +kernel
theorem dX11_jubilee_41 : decode cX11_jubilee 41 = .ok (.iload 4, 2) := by decide +kernel
theorem dX11_jubilee_43 : decode cX11_jubilee 43 = .ok (.aload_n 0, 1) := by decide +kernel
theorem dX11_jubilee_44 : decode cX11_jubilee 44 = .ok (.getfield 86, 3) := by decide +kernel
theorem dX11_jubilee_47 : decode cX11_jubilee 47 = .ok (.if_icmp .ge 50, 3) := by decide +kernel
theorem dX11_jubilee_50 : decode cX11_jubilee 50 = .ok (.aload_n 0, 1) := by decide +kernel
theorem dX11_jubilee_51 : decode cX11_jubilee 51 = .ok (.getfield 13, 3) := by decide +kernel
theorem dX11_jubilee_54 : decode cX11_jubilee 54 = .ok (.iload 4, 2) := by decide +kernel
theorem dX11_jubilee_56 : decode cX11_jubilee 56 = .ok (.iconst 0, 1) := by decide +kernel
theorem dX11_jubilee_57 : decode cX11_jubilee 57 = .ok (.iastore, 1) := by decide +kernel
theorem dX11_jubilee_58 : decode cX11_jubilee 58 = .ok (.aload_n 0, 1) := by decide +kernel
theorem dX11_jubilee_59 : decode cX11_jubilee 59 = .ok (.iload_n 1, 1) := by decide +kernel
theorem dX11_jubilee_60 : decode cX11_jubilee 60 = .ok (.invokevirtual 244, 3) := by decide +kernel
theorem dX11_jubilee_63 : decode cX11_jubilee 63 = .ok (.istore 5, 2) := by decide +kernel
theorem dX11_jubilee_65 : decode cX11_jubilee 65 = .ok (.iload 5, 2) := by decide +kernel
theorem dX11_jubilee_67 : decode cX11_jubilee 67 = .ok (.iload_n 3, 1) := by decide +kernel
theorem dX11_jubilee_68 : decode cX11_jubilee 68 = .ok (.if_icmp .ge 8, 3) := by decide +kernel
theorem dX11_jubilee_71 : decode cX11_jubilee 71 = .ok (.iload 4, 2) := by decide +kernel
theorem dX11_jubilee_73 : decode cX11_jubilee 73 = .ok (.goto 4, 3) := by decide +kernel
theorem dX11_jubilee_76 : decode cX11_jubilee 76 = .ok (.iload_n 2, 1) := by decide +kernel
theorem dX11_jubilee_77 : decode cX11_jubilee 77 = .ok (.istore_n 2, 1) := by decide +kernel
theorem dX11_jubilee_78 : decode cX11_jubilee 78 = .ok (.iload 5, 2) := by decide +kernel
theorem dX11_jubilee_80 : decode cX11_jubilee 80 = .ok (.iload_n 3, 1) := by decide +kernel
theorem dX11_jubilee_81 : decode cX11_jubilee 81 = .ok (.if_icmp .ge 8, 3) := by decide +kernel
theorem dX11_jubilee_84 : decode cX11_jubilee 84 = .ok (.iload 5, 2) := by decide +kernel
theorem dX11_jubilee_86 : decode cX11_jubilee 86 = .ok (.goto 4, 3) := by decide +kernel
theorem dX11_jubilee_89 : decode cX11_jubilee 89 = .ok (.iload_n 3, 1) := by decide +kernel
theorem dX11_jubilee_90 : decode cX11_jubilee 90 = .ok (.istore_n 3, 1) := by decide +kernel
theorem dX11_jubilee_91 : decode cX11_jubilee 91 = .ok (.iinc 4 1, 3) := by decide +kernel
theorem dX11_jubilee_94 : decode cX11_jubilee 94 = .ok (.goto (-53), 3) := by decide +kernel
theorem dX11_jubilee_97 : decode cX11_jubilee 97 = .ok (.iload_n 2, 1) := by decide +kernel
theorem dX11_jubilee_98 : decode cX11_jubilee 98 = .ok (.ireturn, 1) := by decide +kernel
theorem dX11_fair_0 : decode cX11_fair 0 = .ok (.aload_n 0, 1) := by decide +kernel
theorem dX11_fair_1 : decode cX11_fair 1 = .ok (.iconst 0, 1) := by decide +kernel
theorem dX11_fair_2 : decode cX11_fair 2 = .ok (.putfield 83, 3) := by decide +kernel
theorem dX11_fair_5 : decode cX11_fair 5 = .ok (.iload_n 1, 1) := by decide +kernel
theorem dX11_fair_6 : decode cX11_fair 6 = .ok (.i2l, 1) := by decide +kernel
theorem dX11_fair_7 : decode cX11_fair 7 = .ok (.lconst 0, 1) := by decide +kernel
theorem dX11_fair_8 : decode cX11_fair 8 = .ok (.lconst 1, 1) := by decide +kernel
theorem dX11_fair_9 : decode cX11_fair 9 = .ok (.invokestatic 89, 3) := by decide +kernel
theorem dX11_fair_12 : decode cX11_fair 12 = .ok (.ifCond .ne 10, 3) := by decide +kernel
theorem dX11_fair_15 : decode cX11_fair 15 = .ok (.aload_n 0, 1) := by decide +kernel
theorem dX11_fair_16 : decode cX11_fair 16 = .ok (.bipush (-2), 2) := by decide +kernel
theorem dX11_fair_18 : decode cX11_fair 18 = .ok (.invokevirtual 134, 3) := by decide +kernel
theorem dX11_fair_21 : decode cX11_fair 21 = .ok (.ireturn, 1) := by decide +kernel
theorem dX11_fair_22 : decode cX11_fair 22 = .ok (.bipush (-9), 2) := by decide +kernel
theorem dX11_fair_24 : decode cX11_fair 24 = .ok (.istore_n 2, 1) := by decide +kernel
theorem dX11_fair_25 : decode cX11_fair 25 = .ok (.iconst 0, 1) := by decide +kernel
theorem dX11_fair_26 : decode cX11_fair 26 = .ok (.istore_n 3, 1) := by decide +kernel
theorem dX11_fair_27 : decode cX11_fair 27 = .ok (.iconst 0, 1) := by decide +kernel
theorem dX11_fair_28 : decode cX11_fair 28 = .ok (.istore 4, 2) := by decide +kernel
theorem dX11_fair_30 : decode cX11_fair 30 = .ok (.iload 4, 2) := by decide +kernel
theorem dX11_fair_32 : decode cX11_fair 32 = .ok (.aload_n 0, 1) := by decide +kernel
theorem dX11_fair_33 : decode cX11_fair 33 = .ok (.getfield 86, 3) := by decide +kernel
theorem dX11_fair_36 : decode cX11_fair 36 = .ok (.if_icmp .ge 60, 3) := by decide +kernel
theorem dX11_fair_39 : decode cX11_fair 39 = .ok (.iload 4, 2) := by decide +kernel
theorem dX11_fair_41 : decode cX11_fair 41 = .ok (.ifCond .eq 13, 3) := by decide +kernel
theorem dX11_fair_44 : decode cX11_fair 44 = .ok (.aload_n 0, 1) := by decide +kernel
theorem dX11_fair_45 : decode cX11_fair 45 = .ok (.iload 4, 2) := by decide +kernel
theorem dX11_fair_47 : decode cX11_fair 47 = .ok (.invokevirtual 227, 3) := by decide +kernel
theorem dX11_fair_50 : decode cX11_fair 50 = .ok (.iload_n 3, 1) := by decide +kernel
theorem dX11_fair_51 : decode cX11_fair 51 = .ok (.if_icmp .ge 12, 3) := by decide +kernel
theorem dX11_fair_54 : decode cX11_fair 54 = .ok (.aload_n 0, 1) := by decide +kernel
theorem dX11_fair_55 : decode cX11_fair 55 = .ok (.iload 4, 2) := by decide +kernel
theorem dX11_fair_57 : decode cX11_fair 57 = .ok (.invokevirtual 227, 3) := by decide +kernel
theorem dX11_fair_60 : decode cX11_fair 60 = .ok (.goto 4, 3) := by decide +kernel
theorem dX11_fair_63 : decode cX11_fair 63 = .ok (.iload_n 3, 1) := by decide +kernel
theorem dX11_fair_64 : decode cX11_fair 64 = .ok (.istore_n 3, 1) := by decide +kernel
theorem dX11_fair_65 : decode cX11_fair 65 = .ok (.iload_n 2, 1) := by decide +kernel
theorem dX11_fair_66 : decode cX11_fair 66 = .ok (.ifCond .lt 17, 3) := by decide +kernel
theorem dX11_fair_69 : decode cX11_fair 69 = .ok (.aload_n 0, 1) := by decide +kernel
theorem dX11_fair_70 : decode cX11_fair 70 = .ok (.iload 4, 2) := by decide +kernel
theorem dX11_fair_72 : decode cX11_fair 72 = .ok (.invokevirtual 227, 3) := by decide +kernel
theorem dX11_fair_75 : decode cX11_fair 75 = .ok (.aload_n 0, 1) := by decide +kernel
theorem dX11_fair_76 : decode cX11_fair 76 = .ok (.iload_n 2, 1) := by decide +kernel
theorem dX11_fair_77 : decode cX11_fair 77 = .ok (.invokevirtual 227, 3) := by decide +kernel
theorem dX11_fair_80 : decode cX11_fair 80 = .ok (.if_icmp .le 8, 3) := by decide +kernel
theorem dX11_fair_83 : decode cX11_fair 83 = .ok (.iload 4, 2) := by decide +kernel
theorem dX11_fair_85 : decode cX11_fair 85 = .ok (.goto 4, 3) := by decide +kernel
theorem dX11_fair_88 : decode cX11_fair 88 = .ok (.iload_n 2, 1) := by decide +kernel
theorem dX11_fair_89 : decode cX11_fair 89 = .ok (.istore_n 2, 1) := by decide +kernel
theorem dX11_fair_90 : decode cX11_fair 90 = .ok (.iinc 4 1, 3) := by decide +kernel
theorem dX11_fair_93 : decode cX11_fair 93 = .ok (.goto (-63), 3) := by decide +kernel
theorem dX11_fair_96 : decode cX11_fair 96 = .ok (.iload_n 1, 1) := by decide +kernel
theorem dX11_fair_97 : decode cX11_fair 97 = .ok (.iconst 1, 1) := by decide +kernel
theorem dX11_fair_98 : decode cX11_fair 98 = .ok (.if_icmp .ne 7, 3) := by decide +kernel
theorem dX11_fair_101 : decode cX11_fair 101 = .ok (.iload_n 2, 1) := by decide +kernel
theorem dX11_fair_102 : decode cX11_fair 102 = .ok (.goto 18, 3) := by decide +kernel
theorem dX11_fair_105 : decode cX11_fair 105 = .ok (.iload_n 2, 1) := by decide +kernel
theorem dX11_fair_106 : decode cX11_fair 106 = .ok (.ifCond .ge 7, 3) := by decide +kernel
theorem dX11_fair_109 : decode cX11_fair 109 = .ok (.iconst 0, 1) := by decide +kernel
theorem dX11_fair_110 : decode cX11_fair 110 = .ok (.goto 10, 3) := by decide +kernel
theorem dX11_fair_113 : decode cX11_fair 113 = .ok (.aload_n 0, 1) := by decide +kernel
theorem dX11_fair_114 : decode cX11_fair 114 = .ok (.iload_n 2, 1) := by decide +kernel
theorem dX11_fair_115 : decode cX11_fair 115 = .ok (.invokevirtual 227, 3) := by decide +kernel
theorem dX11_fair_118 : decode cX11_fair 118 = .ok (.iload_n 3, 1) := by decide +kernel
theorem dX11_fair_119 : decode cX11_fair 119 = .ok (.isub, 1) := by decide +kernel
theorem dX11_fair_120 : decode cX11_fair 120 = .ok (.ireturn, 1) := by decide +kernel
theorem dX11_peak_0 : decode cX11_peak 0 = .ok (.aload_n 0, 1) := by decide +kernel
theorem dX11_peak_1 : decode cX11_peak 1 = .ok (.iconst 0, 1) := by decide +kernel
theorem dX11_peak_2 : decode cX11_peak 2 = .ok (.putfield 83, 3) := by decide +kernel
theorem dX11_peak_5 : decode cX11_peak 5 = .ok (.aload_n 0, 1) := by decide +kernel
theorem dX11_peak_6 : decode cX11_peak 6 = .ok (.iload_n 1, 1) := by decide +kernel
theorem dX11_peak_7 : decode cX11_peak 7 = .ok (.invokevirtual 188, 3) := by decide +kernel
theorem dX11_peak_10 : decode cX11_peak 10 = .ok (.ifCond .eq 13, 3) := by decide +kernel
theorem dX11_peak_13 : decode cX11_peak 13 = .ok (.iload_n 2, 1) := by decide +kernel
theorem dX11_peak_14 : decode cX11_peak 14 = .ok (.iconst 0, 1) := by decide +kernel
theorem dX11_peak_15 : decode cX11_peak 15 = .ok (.bipush 100, 2) := by decide +kernel
theorem dX11_peak_17 : decode cX11_peak 17 = .ok (.invokestatic 238, 3) := by decide +kernel
theorem dX11_peak_20 : decode cX11_peak 20 = .ok (.goto 4, 3) := by decide +kernel
theorem dX11_peak_23 : decode cX11_peak 23 = .ok (.iconst (-1), 1) := by decide +kernel
theorem dX11_peak_24 : decode cX11_peak 24 = .ok (.iload_n 3, 1) := by decide +kernel
theorem dX11_peak_25 : decode cX11_peak 25 = .ok (.iconst 1, 1) := by decide +kernel
theorem dX11_peak_26 : decode cX11_peak 26 = .ok (.invokestatic 241, 3) := by decide +kernel
theorem dX11_peak_29 : decode cX11_peak 29 = .ok (.istore 4, 2) := by decide +kernel
theorem dX11_peak_31 : decode cX11_peak 31 = .ok (.iload 4, 2) := by decide +kernel
theorem dX11_peak_33 : decode cX11_peak 33 = .ok (.ifCond .ge 10, 3) := by decide +kernel
theorem dX11_peak_36 : decode cX11_peak 36 = .ok (.aload_n 0, 1) := by decide +kernel
theorem dX11_peak_37 : decode cX11_peak 37 = .ok (.iload 4, 2) := by decide +kernel
theorem dX11_peak_39 : decode cX11_peak 39 = .ok (.invokevirtual 134, 3) := by decide +kernel
theorem dX11_peak_42 : decode cX11_peak 42 = .ok (.ireturn, 1) := by decide +kernel
theorem dX11_peak_43 : decode cX11_peak 43 = .ok (.aload_n 0, 1) := by decide +kernel
theorem dX11_peak_44 : decode cX11_peak 44 = .ok (.invokevirtual 194, 3) := by decide +kernel
theorem dX11_peak_47 : decode cX11_peak 47 = .ok (.aload_n 0, 1) := by decide +kernel
theorem dX11_peak_48 : decode cX11_peak 48 = .ok (.getfield 13, 3) := by decide +kernel
theorem dX11_peak_51 : decode cX11_peak 51 = .ok (.iload_n 1, 1) := by decide +kernel
theorem dX11_peak_52 : decode cX11_peak 52 = .ok (.iaload, 1) := by decide +kernel
theorem dX11_peak_53 : decode cX11_peak 53 = .ok (.istore 5, 2) := by decide +kernel
theorem dX11_peak_55 : decode cX11_peak 55 = .ok (.iconst 0, 1) := by decide +kernel
theorem dX11_peak_56 : decode cX11_peak 56 = .ok (.istore 6, 2) := by decide +kernel
theorem dX11_peak_58 : decode cX11_peak 58 = .ok (.iconst 1, 1) := by decide +kernel
theorem dX11_peak_59 : decode cX11_peak 59 = .ok (.istore 7, 2) := by decide +kernel
theorem dX11_peak_61 : decode cX11_peak 61 = .ok (.iload 7, 2) := by decide +kernel
theorem dX11_peak_63 : decode cX11_peak 63 = .ok (.iload_n 2, 1) := by decide +kernel
theorem dX11_peak_64 : decode cX11_peak 64 = .ok (.if_icmp .gt 57, 3) := by decide +kernel
theorem dX11_peak_67 : decode cX11_peak 67 = .ok (.aload_n 0, 1) := by decide +kernel
theorem dX11_peak_68 : decode cX11_peak 68 = .ok (.invokevirtual 131, 3) := by decide +kernel
theorem dX11_peak_71 : decode cX11_peak 71 = .ok (.aload_n 0, 1) := by decide +kernel
theorem dX11_peak_72 : decode cX11_peak 72 = .ok (.getfield 13, 3) := by decide +kernel
theorem dX11_peak_75 : decode cX11_peak 75 = .ok (.iload_n 1, 1) := by decide +kernel
theorem dX11_peak_76 : decode cX11_peak 76 = .ok (.iaload, 1) := by decide +kernel
theorem dX11_peak_77 : decode cX11_peak 77 = .ok (.iload 5, 2) := by decide +kernel
theorem dX11_peak_79 : decode cX11_peak 79 = .ok (.if_icmp .le 8, 3) := by decide +kernel
theorem dX11_peak_82 : decode cX11_peak 82 = .ok (.iload 7, 2) := by decide +kernel
theorem dX11_peak_84 : decode cX11_peak 84 = .ok (.goto 5, 3) := by decide +kernel
theorem dX11_peak_87 : decode cX11_peak 87 = .ok (.iload 6, 2) := by decide +kernel
theorem dX11_peak_89 : decode cX11_peak 89 = .ok (.istore 6, 2) := by decide +kernel
theorem dX11_peak_91 : decode cX11_peak 91 = .ok (.aload_n 0, 1) := by decide +kernel
theorem dX11_peak_92 : decode cX11_peak 92 = .ok (.getfield 13, 3) := by decide +kernel
theorem dX11_peak_95 : decode cX11_peak 95 = .ok (.iload_n 1, 1) := by decide +kernel
theorem dX11_peak_96 : decode cX11_peak 96 = .ok (.iaload, 1) := by decide +kernel
theorem dX11_peak_97 : decode cX11_peak 97 = .ok (.iload 5, 2) := by decide +kernel
theorem dX11_peak_99 : decode cX11_peak 99 = .ok (.if_icmp .le 12, 3) := by decide +kernel
theorem dX11_peak_102 : decode cX11_peak 102 = .ok (.aload_n 0, 1) := by decide +kernel
theorem dX11_peak_103 : decode cX11_peak 103 = .ok (.getfield 13, 3) := by decide +kernel
theorem dX11_peak_106 : decode cX11_peak 106 = .ok (.iload_n 1, 1) := by decide +kernel
theorem dX11_peak_107 : decode cX11_peak 107 = .ok (.iaload, 1) := by decide +kernel
theorem dX11_peak_108 : decode cX11_peak 108 = .ok (.goto 5, 3) := by decide +kernel
theorem dX11_peak_111 : decode cX11_peak 111 = .ok (.iload 5, 2) := by decide +kernel
theorem dX11_peak_113 : decode cX11_peak 113 = .ok (.istore 5, 2) := by decide +kernel
theorem dX11_peak_115 : decode cX11_peak 115 = .ok (.iinc 7 1, 3) := by decide +kernel
theorem dX11_peak_118 : decode cX11_peak 118 = .ok (.goto (-57), 3) := by decide +kernel
theorem dX11_peak_121 : decode cX11_peak 121 = .ok (.aload_n 0, 1) := by decide +kernel
theorem dX11_peak_122 : decode cX11_peak 122 = .ok (.invokevirtual 200, 3) := by decide +kernel
theorem dX11_peak_125 : decode cX11_peak 125 = .ok (.iload_n 3, 1) := by decide +kernel
theorem dX11_peak_126 : decode cX11_peak 126 = .ok (.ifCond .ne 8, 3) := by decide +kernel
theorem dX11_peak_129 : decode cX11_peak 129 = .ok (.iload 5, 2) := by decide +kernel
theorem dX11_peak_131 : decode cX11_peak 131 = .ok (.goto 5, 3) := by decide +kernel
theorem dX11_peak_134 : decode cX11_peak 134 = .ok (.iload 6, 2) := by decide +kernel
theorem dX11_peak_136 : decode cX11_peak 136 = .ok (.ireturn, 1) := by decide +kernel
theorem dX11_interest_0 : decode cX11_interest 0 = .ok (.aload_n 0, 1) := by decide +kernel
theorem dX11_interest_1 : decode cX11_interest 1 = .ok (.iconst 0, 1) := by decide +kernel
theorem dX11_interest_2 : decode cX11_interest 2 = .ok (.putfield 83, 3) := by decide +kernel
theorem dX11_interest_5 : decode cX11_interest 5 = .ok (.aload_n 0, 1) := by decide +kernel
theorem dX11_interest_6 : decode cX11_interest 6 = .ok (.iload_n 1, 1) := by decide +kernel
theorem dX11_interest_7 : decode cX11_interest 7 = .ok (.invokevirtual 188, 3) := by decide +kernel
theorem dX11_interest_10 : decode cX11_interest 10 = .ok (.ifCond .eq 13, 3) := by decide +kernel
theorem dX11_interest_13 : decode cX11_interest 13 = .ok (.iload_n 2, 1) := by decide +kernel
theorem dX11_interest_14 : decode cX11_interest 14 = .ok (.iconst 0, 1) := by decide +kernel
theorem dX11_interest_15 : decode cX11_interest 15 = .ok (.bipush 100, 2) := by decide +kernel
theorem dX11_interest_17 : decode cX11_interest 17 = .ok (.invokestatic 238, 3) := by decide +kernel
theorem dX11_interest_20 : decode cX11_interest 20 = .ok (.goto 4, 3) := by decide +kernel
theorem dX11_interest_23 : decode cX11_interest 23 = .ok (.iconst (-1), 1) := by decide +kernel
theorem dX11_interest_24 : decode cX11_interest 24 = .ok (.istore_n 3, 1) := by decide +kernel
theorem dX11_interest_25 : decode cX11_interest 25 = .ok (.iload_n 3, 1) := by decide +kernel
theorem dX11_interest_26 : decode cX11_interest 26 = .ok (.ifCond .ge 9, 3) := by decide +kernel
theorem dX11_interest_29 : decode cX11_interest 29 = .ok (.aload_n 0, 1) := by decide +kernel
theorem dX11_interest_30 : decode cX11_interest 30 = .ok (.iload_n 3, 1) := by decide +kernel
theorem dX11_interest_31 : decode cX11_interest 31 = .ok (.invokevirtual 134, 3) := by decide +kernel
theorem dX11_interest_34 : decode cX11_interest 34 = .ok (.ireturn, 1) := by decide +kernel
theorem dX11_interest_35 : decode cX11_interest 35 = .ok (.aload_n 0, 1) := by decide +kernel
theorem dX11_interest_36 : decode cX11_interest 36 = .ok (.invokevirtual 194, 3) := by decide +kernel
theorem dX11_interest_39 : decode cX11_interest 39 = .ok (.iconst 0, 1) := by decide +kernel
theorem dX11_interest_40 : decode cX11_interest 40 = .ok (.istore 4, 2) := by decide +kernel
theorem dX11_interest_42 : decode cX11_interest 42 = .ok (.iconst 0, 1) := by decide +kernel
theorem dX11_interest_43 : decode cX11_interest 43 = .ok (.istore 5, 2) := by decide +kernel
theorem dX11_interest_45 : decode cX11_interest 45 = .ok (.iload 5, 2) := by decide +kernel
theorem dX11_interest_47 : decode cX11_interest 47 = .ok (.iload_n 2, 1) := by decide +kernel
theorem dX11_interest_48 : decode cX11_interest 48 = .ok (.if_icmp .ge 52, 3) := by decide +kernel
theorem dX11_interest_51 : decode cX11_interest 51 = .ok (.iload 4, 2) := by decide +kernel
theorem dX11_interest_53 : decode cX11_interest 53 = .ok (.aload_n 0, 1) := by decide +kernel
theorem dX11_interest_54 : decode cX11_interest 54 = .ok (.getfield 13, 3) := by decide +kernel
theorem dX11_interest_57 : decode cX11_interest 57 = .ok (.iload_n 1, 1) := by decide +kernel
theorem dX11_interest_58 : decode cX11_interest 58 = .ok (.iaload, 1) := by decide +kernel
theorem dX11_interest_59 : decode cX11_interest 59 = .ok (.aload_n 0, 1) := by decide +kernel
theorem dX11_interest_60 : decode cX11_interest 60 = .ok (.getfield 13, 3) := by decide +kernel
theorem dX11_interest_63 : decode cX11_interest 63 = .ok (.iload_n 1, 1) := by decide +kernel
theorem dX11_interest_64 : decode cX11_interest 64 = .ok (.iaload, 1) := by decide +kernel
theorem dX11_interest_65 : decode cX11_interest 65 = .ok (.aload_n 0, 1) := by decide +kernel
theorem dX11_interest_66 : decode cX11_interest 66 = .ok (.getfield 22, 3) := by decide +kernel
theorem dX11_interest_69 : decode cX11_interest 69 = .ok (.imul, 1) := by decide +kernel
theorem dX11_interest_70 : decode cX11_interest 70 = .ok (.bipush 100, 2) := by decide +kernel
theorem dX11_interest_72 : decode cX11_interest 72 = .ok (.idiv, 1) := by decide +kernel
theorem dX11_interest_73 : decode cX11_interest 73 = .ok (.iadd, 1) := by decide +kernel
theorem dX11_interest_74 : decode cX11_interest 74 = .ok (.iconst 0, 1) := by decide +kernel
theorem dX11_interest_75 : decode cX11_interest 75 = .ok (.ldc 96, 2) := by decide +kernel
theorem dX11_interest_77 : decode cX11_interest 77 = .ok (.invokestatic 97, 3) := by decide +kernel
theorem dX11_interest_80 : decode cX11_interest 80 = .ok (.aload_n 0, 1) := by decide +kernel
theorem dX11_interest_81 : decode cX11_interest 81 = .ok (.getfield 13, 3) := by decide +kernel
theorem dX11_interest_84 : decode cX11_interest 84 = .ok (.iload_n 1, 1) := by decide +kernel
theorem dX11_interest_85 : decode cX11_interest 85 = .ok (.iaload, 1) := by decide +kernel
theorem dX11_interest_86 : decode cX11_interest 86 = .ok (.isub, 1) := by decide +kernel
theorem dX11_interest_87 : decode cX11_interest 87 = .ok (.iadd, 1) := by decide +kernel
theorem dX11_interest_88 : decode cX11_interest 88 = .ok (.istore 4, 2) := by decide +kernel
theorem dX11_interest_90 : decode cX11_interest 90 = .ok (.aload_n 0, 1) := by decide +kernel
theorem dX11_interest_91 : decode cX11_interest 91 = .ok (.invokevirtual 131, 3) := by decide +kernel
theorem dX11_interest_94 : decode cX11_interest 94 = .ok (.iinc 5 1, 3) := by decide +kernel
theorem dX11_interest_97 : decode cX11_interest 97 = .ok (.goto (-52), 3) := by decide +kernel
theorem dX11_interest_100 : decode cX11_interest 100 = .ok (.aload_n 0, 1) := by decide +kernel
theorem dX11_interest_101 : decode cX11_interest 101 = .ok (.invokevirtual 200, 3) := by decide +kernel
theorem dX11_interest_104 : decode cX11_interest 104 = .ok (.iload 4, 2) := by decide +kernel
theorem dX11_interest_106 : decode cX11_interest 106 = .ok (.ireturn, 1) := by decide +kernel
theorem dX11_doubled_0 : decode cX11_doubled 0 = .ok (.aload_n 0, 1) := by decide +kernel
theorem dX11_doubled_1 : decode cX11_doubled 1 = .ok (.iconst 0, 1) := by decide +kernel
theorem dX11_doubled_2 : decode cX11_doubled 2 = .ok (.putfield 83, 3) := by decide +kernel
theorem dX11_doubled_5 : decode cX11_doubled 5 = .ok (.aload_n 0, 1) := by decide +kernel
theorem dX11_doubled_6 : decode cX11_doubled 6 = .ok (.iload_n 1, 1) := by decide +kernel
theorem dX11_doubled_7 : decode cX11_doubled 7 = .ok (.invokevirtual 188, 3) := by decide +kernel
theorem dX11_doubled_10 : decode cX11_doubled 10 = .ok (.ifCond .ne 9, 3) := by decide +kernel
theorem dX11_doubled_13 : decode cX11_doubled 13 = .ok (.aload_n 0, 1) := by decide +kernel
theorem dX11_doubled_14 : decode cX11_doubled 14 = .ok (.iconst (-1), 1) := by decide +kernel
theorem dX11_doubled_15 : decode cX11_doubled 15 = .ok (.invokevirtual 134, 3) := by decide +kernel
theorem dX11_doubled_18 : decode cX11_doubled 18 = .ok (.ireturn, 1) := by decide +kernel
theorem dX11_doubled_19 : decode cX11_doubled 19 = .ok (.aload_n 0, 1) := by decide +kernel
theorem dX11_doubled_20 : decode cX11_doubled 20 = .ok (.getfield 13, 3) := by decide +kernel
theorem dX11_doubled_23 : decode cX11_doubled 23 = .ok (.iload_n 1, 1) := by decide +kernel
theorem dX11_doubled_24 : decode cX11_doubled 24 = .ok (.iaload, 1) := by decide +kernel
theorem dX11_doubled_25 : decode cX11_doubled 25 = .ok (.istore_n 2, 1) := by decide +kernel
theorem dX11_doubled_26 : decode cX11_doubled 26 = .ok (.bipush (-9), 2) := by decide +kernel
theorem dX11_doubled_28 : decode cX11_doubled 28 = .ok (.istore_n 3, 1) := by decide +kernel
theorem dX11_doubled_29 : decode cX11_doubled 29 = .ok (.aload_n 0, 1) := by decide +kernel
theorem dX11_doubled_30 : decode cX11_doubled 30 = .ok (.invokevirtual 194, 3) := by decide +kernel
theorem dX11_doubled_33 : decode cX11_doubled 33 = .ok (.iconst 1, 1) := by decide +kernel
theorem dX11_doubled_34 : decode cX11_doubled 34 = .ok (.istore 4, 2) := by decide +kernel
theorem dX11_doubled_36 : decode cX11_doubled 36 = .ok (.iload 4, 2) := by decide +kernel
theorem dX11_doubled_38 : decode cX11_doubled 38 = .ok (.bipush 100, 2) := by decide +kernel
theorem dX11_doubled_40 : decode cX11_doubled 40 = .ok (.if_icmp .gt 41, 3) := by decide +kernel
theorem dX11_doubled_43 : decode cX11_doubled 43 = .ok (.iload_n 3, 1) := by decide +kernel
theorem dX11_doubled_44 : decode cX11_doubled 44 = .ok (.ifCond .ge 37, 3) := by decide +kernel
theorem dX11_doubled_47 : decode cX11_doubled 47 = .ok (.iload_n 2, 1) := by decide +kernel
theorem dX11_doubled_48 : decode cX11_doubled 48 = .ok (.ifCond .le 33, 3) := by decide +kernel
theorem dX11_doubled_51 : decode cX11_doubled 51 = .ok (.aload_n 0, 1) := by decide +kernel
theorem dX11_doubled_52 : decode cX11_doubled 52 = .ok (.invokevirtual 131, 3) := by decide +kernel
theorem dX11_doubled_55 : decode cX11_doubled 55 = .ok (.aload_n 0, 1) := by decide +kernel
theorem dX11_doubled_56 : decode cX11_doubled 56 = .ok (.getfield 13, 3) := by decide +kernel
theorem dX11_doubled_59 : decode cX11_doubled 59 = .ok (.iload_n 1, 1) := by decide +kernel
theorem dX11_doubled_60 : decode cX11_doubled 60 = .ok (.iaload, 1) := by decide +kernel
theorem dX11_doubled_61 : decode cX11_doubled 61 = .ok (.iconst 2, 1) := by decide +kernel
theorem dX11_doubled_62 : decode cX11_doubled 62 = .ok (.iload_n 2, 1) := by decide +kernel
theorem dX11_doubled_63 : decode cX11_doubled 63 = .ok (.imul, 1) := by decide +kernel
theorem dX11_doubled_64 : decode cX11_doubled 64 = .ok (.if_icmp .lt 8, 3) := by decide +kernel
theorem dX11_doubled_67 : decode cX11_doubled 67 = .ok (.iload 4, 2) := by decide +kernel
theorem dX11_doubled_69 : decode cX11_doubled 69 = .ok (.goto 5, 3) := by decide +kernel
theorem dX11_doubled_72 : decode cX11_doubled 72 = .ok (.bipush (-9), 2) := by decide +kernel
theorem dX11_doubled_74 : decode cX11_doubled 74 = .ok (.istore_n 3, 1) := by decide +kernel
theorem dX11_doubled_75 : decode cX11_doubled 75 = .ok (.iinc 4 1, 3) := by decide +kernel
theorem dX11_doubled_78 : decode cX11_doubled 78 = .ok (.goto (-42), 3) := by decide +kernel
theorem dX11_doubled_81 : decode cX11_doubled 81 = .ok (.aload_n 0, 1) := by decide +kernel
theorem dX11_doubled_82 : decode cX11_doubled 82 = .ok (.invokevirtual 200, 3) := by decide +kernel
theorem dX11_doubled_85 : decode cX11_doubled 85 = .ok (.iload_n 3, 1) := by decide +kernel
theorem dX11_doubled_86 : decode cX11_doubled 86 = .ok (.ireturn, 1) := by decide +kernel
theorem dX11_commonPay_0 : decode cX11_commonPay 0 = .ok (.aload_n 0, 1) := by decide +kernel
theorem dX11_commonPay_1 : decode cX11_commonPay 1 = .ok (.iconst 0, 1) := by decide +kernel
theorem dX11_commonPay_2 : decode cX11_commonPay 2 = .ok (.putfield 83, 3) := by decide +kernel
theorem dX11_commonPay_5 : decode cX11_commonPay 5 = .ok (.iload_n 1, 1) := by decide +kernel
theorem dX11_commonPay_6 : decode cX11_commonPay 6 = .ok (.ifCond .lt 7, 3) := by decide +kernel
theorem dX11_commonPay_9 : decode cX11_commonPay 9 = .ok (.iload_n 2, 1) := by decide +kernel
theorem dX11_commonPay_10 : decode cX11_commonPay 10 = .ok (.ifCond .ge 8, 3) := by decide +kernel
theorem dX11_commonPay_13 : decode cX11_commonPay 13 = .ok (.bipush (-4), 2) := by decide +kernel
theorem dX11_commonPay_15 : decode cX11_commonPay 15 = .ok (.goto 21, 3) := by decide +kernel
theorem dX11_commonPay_18 : decode cX11_commonPay 18 = .ok (.iload_n 1, 1) := by decide +kernel
theorem dX11_commonPay_19 : decode cX11_commonPay 19 = .ok (.bipush 100, 2) := by decide +kernel
theorem dX11_commonPay_21 : decode cX11_commonPay 21 = .ok (.if_icmp .gt 9, 3) := by decide +kernel
theorem dX11_commonPay_24 : decode cX11_commonPay 24 = .ok (.iload_n 2, 1) := by decide +kernel
theorem dX11_commonPay_25 : decode cX11_commonPay 25 = .ok (.ldc 96, 2) := by decide +kernel
theorem dX11_commonPay_27 : decode cX11_commonPay 27 = .ok (.if_icmp .le 8, 3) := by decide +kernel
theorem dX11_commonPay_30 : decode cX11_commonPay 30 = .ok (.bipush (-6), 2) := by decide +kernel
theorem dX11_commonPay_32 : decode cX11_commonPay 32 = .ok (.goto 4, 3) := by decide +kernel
theorem dX11_commonPay_35 : decode cX11_commonPay 35 = .ok (.iconst 0, 1) := by decide +kernel
theorem dX11_commonPay_36 : decode cX11_commonPay 36 = .ok (.istore_n 3, 1) := by decide +kernel
theorem dX11_commonPay_37 : decode cX11_commonPay 37 = .ok (.iload_n 3, 1) := by decide +kernel
theorem dX11_commonPay_38 : decode cX11_commonPay 38 = .ok (.ifCond .ge 9, 3) := by decide +kernel
theorem dX11_commonPay_41 : decode cX11_commonPay 41 = .ok (.aload_n 0, 1) := by decide +kernel
theorem dX11_commonPay_42 : decode cX11_commonPay 42 = .ok (.iload_n 3, 1) := by decide +kernel
theorem dX11_commonPay_43 : decode cX11_commonPay 43 = .ok (.invokevirtual 134, 3) := by decide +kernel
theorem dX11_commonPay_46 : decode cX11_commonPay 46 = .ok (.ireturn, 1) := by decide +kernel
theorem dX11_commonPay_47 : decode cX11_commonPay 47 = .ok (.bipush (-9), 2) := by decide +kernel
theorem dX11_commonPay_49 : decode cX11_commonPay 49 = .ok (.istore 4, 2) := by decide +kernel
theorem dX11_commonPay_51 : decode cX11_commonPay 51 = .ok (.aload_n 0, 1) := by decide +kernel
theorem dX11_commonPay_52 : decode cX11_commonPay 52 = .ok (.invokevirtual 194, 3) := by decide +kernel
theorem dX11_commonPay_55 : decode cX11_commonPay 55 = .ok (.bipush 9, 2) := by decide +kernel
theorem dX11_commonPay_57 : decode cX11_commonPay 57 = .ok (.istore 5, 2) := by decide +kernel
theorem dX11_commonPay_59 : decode cX11_commonPay 59 = .ok (.iload 5, 2) := by decide +kernel
theorem dX11_commonPay_61 : decode cX11_commonPay 61 = .ok (.ifCond .lt 54, 3) := by decide +kernel
theorem dX11_commonPay_64 : decode cX11_commonPay 64 = .ok (.iconst 0, 1) := by decide +kernel
theorem dX11_commonPay_65 : decode cX11_commonPay 65 = .ok (.istore 6, 2) := by decide +kernel
theorem dX11_commonPay_67 : decode cX11_commonPay 67 = .ok (.iload 6, 2) := by decide +kernel
theorem dX11_commonPay_69 : decode cX11_commonPay 69 = .ok (.aload_n 0, 1) := by decide +kernel
theorem dX11_commonPay_70 : decode cX11_commonPay 70 = .ok (.getfield 86, 3) := by decide +kernel
theorem dX11_commonPay_73 : decode cX11_commonPay 73 = .ok (.if_icmp .ge 18, 3) := by decide +kernel
theorem dX11_commonPay_76 : decode cX11_commonPay 76 = .ok (.aload_n 0, 1) := by decide +kernel
theorem dX11_commonPay_77 : decode cX11_commonPay 77 = .ok (.getfield 16, 3) := by decide +kernel
theorem dX11_commonPay_80 : decode cX11_commonPay 80 = .ok (.iload 6, 2) := by decide +kernel
theorem dX11_commonPay_82 : decode cX11_commonPay 82 = .ok (.iload 5, 2) := by decide +kernel
theorem dX11_commonPay_84 : decode cX11_commonPay 84 = .ok (.iastore, 1) := by decide +kernel
theorem dX11_commonPay_85 : decode cX11_commonPay 85 = .ok (.iinc 6 1, 3) := by decide +kernel
theorem dX11_commonPay_88 : decode cX11_commonPay 88 = .ok (.goto (-21), 3) := by decide +kernel
theorem dX11_commonPay_91 : decode cX11_commonPay 91 = .ok (.aload_n 0, 1) := by decide +kernel
theorem dX11_commonPay_92 : decode cX11_commonPay 92 = .ok (.iload_n 1, 1) := by decide +kernel
theorem dX11_commonPay_93 : decode cX11_commonPay 93 = .ok (.invokevirtual 244, 3) := by decide +kernel
theorem dX11_commonPay_96 : decode cX11_commonPay 96 = .ok (.iload_n 2, 1) := by decide +kernel
theorem dX11_commonPay_97 : decode cX11_commonPay 97 = .ok (.if_icmp .gt 8, 3) := by decide +kernel
theorem dX11_commonPay_100 : decode cX11_commonPay 100 = .ok (.iload 5, 2) := by decide +kernel
theorem dX11_commonPay_102 : decode cX11_commonPay 102 = .ok (.goto 5, 3) := by decide +kernel
theorem dX11_commonPay_105 : decode cX11_commonPay 105 = .ok (.iload 4, 2) := by decide +kernel
theorem dX11_commonPay_107 : decode cX11_commonPay 107 = .ok (.istore 4, 2) := by decide +kernel
theorem dX11_commonPay_109 : decode cX11_commonPay 109 = .ok (.iinc 5 (-1), 3) := by decide +kernel
theorem dX11_commonPay_112 : decode cX11_commonPay 112 = .ok (.goto (-53), 3) := by decide +kernel
theorem dX11_commonPay_115 : decode cX11_commonPay 115 = .ok (.iload 4, 2) := by decide +kernel
theorem dX11_commonPay_117 : decode cX11_commonPay 117 = .ok (.ireturn, 1) := by decide +kernel
theorem dX11_bestBirths_0 : decode cX11_bestBirths 0 = .ok (.aload_n 0, 1) := by decide +kernel
theorem dX11_bestBirths_1 : decode cX11_bestBirths 1 = .ok (.iconst 0, 1) := by decide +kernel
theorem dX11_bestBirths_2 : decode cX11_bestBirths 2 = .ok (.putfield 83, 3) := by decide +kernel
theorem dX11_bestBirths_5 : decode cX11_bestBirths 5 = .ok (.aload_n 0, 1) := by decide +kernel
theorem dX11_bestBirths_6 : decode cX11_bestBirths 6 = .ok (.iload_n 1, 1) := by decide +kernel
theorem dX11_bestBirths_7 : decode cX11_bestBirths 7 = .ok (.invokevirtual 188, 3) := by decide +kernel
theorem dX11_bestBirths_10 : decode cX11_bestBirths 10 = .ok (.ifCond .eq 13, 3) := by decide +kernel
theorem dX11_bestBirths_13 : decode cX11_bestBirths 13 = .ok (.iload_n 2, 1) := by decide +kernel
theorem dX11_bestBirths_14 : decode cX11_bestBirths 14 = .ok (.iconst 0, 1) := by decide +kernel
theorem dX11_bestBirths_15 : decode cX11_bestBirths 15 = .ok (.bipush 100, 2) := by decide +kernel
theorem dX11_bestBirths_17 : decode cX11_bestBirths 17 = .ok (.invokestatic 238, 3) := by decide +kernel
theorem dX11_bestBirths_20 : decode cX11_bestBirths 20 = .ok (.goto 4, 3) := by decide +kernel
theorem dX11_bestBirths_23 : decode cX11_bestBirths 23 = .ok (.iconst (-1), 1) := by decide +kernel
theorem dX11_bestBirths_24 : decode cX11_bestBirths 24 = .ok (.istore_n 3, 1) := by decide +kernel
theorem dX11_bestBirths_25 : decode cX11_bestBirths 25 = .ok (.iload_n 3, 1) := by decide +kernel
theorem dX11_bestBirths_26 : decode cX11_bestBirths 26 = .ok (.ifCond .ge 9, 3) := by decide +kernel
theorem dX11_bestBirths_29 : decode cX11_bestBirths 29 = .ok (.aload_n 0, 1) := by decide +kernel
theorem dX11_bestBirths_30 : decode cX11_bestBirths 30 = .ok (.iload_n 3, 1) := by decide +kernel
theorem dX11_bestBirths_31 : decode cX11_bestBirths 31 = .ok (.invokevirtual 134, 3) := by decide +kernel
theorem dX11_bestBirths_34 : decode cX11_bestBirths 34 = .ok (.ireturn, 1) := by decide +kernel
theorem dX11_bestBirths_35 : decode cX11_bestBirths 35 = .ok (.iconst 0, 1) := by decide +kernel
theorem dX11_bestBirths_36 : decode cX11_bestBirths 36 = .ok (.istore 4, 2) := by decide +kernel
theorem dX11_bestBirths_38 : decode cX11_bestBirths 38 = .ok (.ldc_w 271, 3) := by decide +kernel
theorem dX11_bestBirths_41 : decode cX11_bestBirths 41 = .ok (.istore 5, 2) := by decide +kernel
theorem dX11_bestBirths_43 : decode cX11_bestBirths 43 = .ok (.aload_n 0, 1) := by decide +kernel
theorem dX11_bestBirths_44 : decode cX11_bestBirths 44 = .ok (.invokevirtual 194, 3) := by decide +kernel
theorem dX11_bestBirths_47 : decode cX11_bestBirths 47 = .ok (.iconst 0, 1) := by decide +kernel
theorem dX11_bestBirths_48 : decode cX11_bestBirths 48 = .ok (.istore 6, 2) := by decide +kernel
theorem dX11_bestBirths_50 : decode cX11_bestBirths 50 = .ok (.iload 6, 2) := by decide +kernel
theorem dX11_bestBirths_52 : decode cX11_bestBirths 52 = .ok (.bipush 9, 2) := by decide +kernel
theorem dX11_bestBirths_54 : decode cX11_bestBirths 54 = .ok (.if_icmp .gt 65, 3) := by decide +kernel
theorem dX11_bestBirths_57 : decode cX11_bestBirths 57 = .ok (.aload_n 0, 1) := by decide +kernel
theorem dX11_bestBirths_58 : decode cX11_bestBirths 58 = .ok (.getfield 19, 3) := by decide +kernel
theorem dX11_bestBirths_61 : decode cX11_bestBirths 61 = .ok (.iload_n 1, 1) := by decide +kernel
theorem dX11_bestBirths_62 : decode cX11_bestBirths 62 = .ok (.iload 6, 2) := by decide +kernel
theorem dX11_bestBirths_64 : decode cX11_bestBirths 64 = .ok (.iastore, 1) := by decide +kernel
theorem dX11_bestBirths_65 : decode cX11_bestBirths 65 = .ok (.aload_n 0, 1) := by decide +kernel
theorem dX11_bestBirths_66 : decode cX11_bestBirths 66 = .ok (.iload_n 2, 1) := by decide +kernel
theorem dX11_bestBirths_67 : decode cX11_bestBirths 67 = .ok (.invokevirtual 185, 3) := by decide +kernel
theorem dX11_bestBirths_70 : decode cX11_bestBirths 70 = .ok (.aload_n 0, 1) := by decide +kernel
theorem dX11_bestBirths_71 : decode cX11_bestBirths 71 = .ok (.iload_n 1, 1) := by decide +kernel
theorem dX11_bestBirths_72 : decode cX11_bestBirths 72 = .ok (.invokevirtual 227, 3) := by decide +kernel
theorem dX11_bestBirths_75 : decode cX11_bestBirths 75 = .ok (.istore 7, 2) := by decide +kernel
theorem dX11_bestBirths_77 : decode cX11_bestBirths 77 = .ok (.aload_n 0, 1) := by decide +kernel
theorem dX11_bestBirths_78 : decode cX11_bestBirths 78 = .ok (.invokevirtual 200, 3) := by decide +kernel
theorem dX11_bestBirths_81 : decode cX11_bestBirths 81 = .ok (.iload 7, 2) := by decide +kernel
theorem dX11_bestBirths_83 : decode cX11_bestBirths 83 = .ok (.iload 5, 2) := by decide +kernel
theorem dX11_bestBirths_85 : decode cX11_bestBirths 85 = .ok (.if_icmp .ge 8, 3) := by decide +kernel
theorem dX11_bestBirths_88 : decode cX11_bestBirths 88 = .ok (.iload 6, 2) := by decide +kernel
theorem dX11_bestBirths_90 : decode cX11_bestBirths 90 = .ok (.goto 5, 3) := by decide +kernel
theorem dX11_bestBirths_93 : decode cX11_bestBirths 93 = .ok (.iload 4, 2) := by decide +kernel
theorem dX11_bestBirths_95 : decode cX11_bestBirths 95 = .ok (.istore 4, 2) := by decide +kernel
theorem dX11_bestBirths_97 : decode cX11_bestBirths 97 = .ok (.iload 7, 2) := by decide +kernel
theorem dX11_bestBirths_99 : decode cX11_bestBirths 99 = .ok (.iload 5, 2) := by decide +kernel
theorem dX11_bestBirths_101 : decode cX11_bestBirths 101 = .ok (.if_icmp .ge 8, 3) := by decide +kernel
theorem dX11_bestBirths_104 : decode cX11_bestBirths 104 = .ok (.iload 7, 2) := by decide +kernel
theorem dX11_bestBirths_106 : decode cX11_bestBirths 106 = .ok (.goto 5, 3) := by decide +kernel
theorem dX11_bestBirths_109 : decode cX11_bestBirths 109 = .ok (.iload 5, 2) := by decide +kernel
theorem dX11_bestBirths_111 : decode cX11_bestBirths 111 = .ok (.istore 5, 2) := by decide +kernel
theorem dX11_bestBirths_113 : decode cX11_bestBirths 113 = .ok (.iinc 6 1, 3) := by decide +kernel
theorem dX11_bestBirths_116 : decode cX11_bestBirths 116 = .ok (.goto (-66), 3) := by decide +kernel
theorem dX11_bestBirths_119 : decode cX11_bestBirths 119 = .ok (.iload 4, 2) := by decide +kernel
theorem dX11_bestBirths_121 : decode cX11_bestBirths 121 = .ok (.ireturn, 1) := by decide +kernel
theorem dX11_lump_0 : decode cX11_lump 0 = .ok (.aload_n 0, 1) := by decide +kernel
theorem dX11_lump_1 : decode cX11_lump 1 = .ok (.iconst 0, 1) := by decide +kernel
theorem dX11_lump_2 : decode cX11_lump 2 = .ok (.putfield 83, 3) := by decide +kernel
theorem dX11_lump_5 : decode cX11_lump 5 = .ok (.aload_n 0, 1) := by decide +kernel
theorem dX11_lump_6 : decode cX11_lump 6 = .ok (.iload_n 1, 1) := by decide +kernel
theorem dX11_lump_7 : decode cX11_lump 7 = .ok (.invokevirtual 188, 3) := by decide +kernel
theorem dX11_lump_10 : decode cX11_lump 10 = .ok (.ifCond .eq 14, 3) := by decide +kernel
theorem dX11_lump_13 : decode cX11_lump 13 = .ok (.iload_n 2, 1) := by decide +kernel
theorem dX11_lump_14 : decode cX11_lump 14 = .ok (.iconst 0, 1) := by decide +kernel
theorem dX11_lump_15 : decode cX11_lump 15 = .ok (.sipush 9999, 3) := by decide +kernel
theorem dX11_lump_18 : decode cX11_lump 18 = .ok (.invokestatic 238, 3) := by decide +kernel
theorem dX11_lump_21 : decode cX11_lump 21 = .ok (.goto 4, 3) := by decide +kernel
theorem dX11_lump_24 : decode cX11_lump 24 = .ok (.iconst (-1), 1) := by decide +kernel
theorem dX11_lump_25 : decode cX11_lump 25 = .ok (.istore_n 3, 1) := by decide +kernel
theorem dX11_lump_26 : decode cX11_lump 26 = .ok (.iload_n 3, 1) := by decide +kernel
theorem dX11_lump_27 : decode cX11_lump 27 = .ok (.ifCond .ge 9, 3) := by decide +kernel
theorem dX11_lump_30 : decode cX11_lump 30 = .ok (.aload_n 0, 1) := by decide +kernel
theorem dX11_lump_31 : decode cX11_lump 31 = .ok (.iload_n 3, 1) := by decide +kernel
theorem dX11_lump_32 : decode cX11_lump 32 = .ok (.invokevirtual 134, 3) := by decide +kernel
theorem dX11_lump_35 : decode cX11_lump 35 = .ok (.ireturn, 1) := by decide +kernel
theorem dX11_lump_36 : decode cX11_lump 36 = .ok (.iconst 0, 1) := by decide +kernel
theorem dX11_lump_37 : decode cX11_lump 37 = .ok (.istore 4, 2) := by decide +kernel
theorem dX11_lump_39 : decode cX11_lump 39 = .ok (.aload_n 0, 1) := by decide +kernel
theorem dX11_lump_40 : decode cX11_lump 40 = .ok (.invokevirtual 194, 3) := by decide +kernel
theorem dX11_lump_43 : decode cX11_lump 43 = .ok (.iload 4, 2) := by decide +kernel
theorem dX11_lump_45 : decode cX11_lump 45 = .ok (.bipush 100, 2) := by decide +kernel
theorem dX11_lump_47 : decode cX11_lump 47 = .ok (.if_icmp .gt 42, 3) := by decide +kernel
theorem dX11_lump_50 : decode cX11_lump 50 = .ok (.aload_n 0, 1) := by decide +kernel
theorem dX11_lump_51 : decode cX11_lump 51 = .ok (.getfield 13, 3) := by decide +kernel
theorem dX11_lump_54 : decode cX11_lump 54 = .ok (.iload_n 1, 1) := by decide +kernel
theorem dX11_lump_55 : decode cX11_lump 55 = .ok (.iaload, 1) := by decide +kernel
theorem dX11_lump_56 : decode cX11_lump 56 = .ok (.ifCond .le 33, 3) := by decide +kernel
theorem dX11_lump_59 : decode cX11_lump 59 = .ok (.aload_n 0, 1) := by decide +kernel
theorem dX11_lump_60 : decode cX11_lump 60 = .ok (.invokevirtual 131, 3) := by decide +kernel
theorem dX11_lump_63 : decode cX11_lump 63 = .ok (.aload_n 0, 1) := by decide +kernel
theorem dX11_lump_64 : decode cX11_lump 64 = .ok (.getfield 13, 3) := by decide +kernel
theorem dX11_lump_67 : decode cX11_lump 67 = .ok (.iload_n 1, 1) := by decide +kernel
theorem dX11_lump_68 : decode cX11_lump 68 = .ok (.aload_n 0, 1) := by decide +kernel
theorem dX11_lump_69 : decode cX11_lump 69 = .ok (.getfield 13, 3) := by decide +kernel
theorem dX11_lump_72 : decode cX11_lump 72 = .ok (.iload_n 1, 1) := by decide +kernel
theorem dX11_lump_73 : decode cX11_lump 73 = .ok (.iaload, 1) := by decide +kernel
theorem dX11_lump_74 : decode cX11_lump 74 = .ok (.iload_n 2, 1) := by decide +kernel
theorem dX11_lump_75 : decode cX11_lump 75 = .ok (.isub, 1) := by decide +kernel
theorem dX11_lump_76 : decode cX11_lump 76 = .ok (.iconst 0, 1) := by decide +kernel
theorem dX11_lump_77 : decode cX11_lump 77 = .ok (.ldc 96, 2) := by decide +kernel
theorem dX11_lump_79 : decode cX11_lump 79 = .ok (.invokestatic 97, 3) := by decide +kernel
theorem dX11_lump_82 : decode cX11_lump 82 = .ok (.iastore, 1) := by decide +kernel
theorem dX11_lump_83 : decode cX11_lump 83 = .ok (.iinc 4 1, 3) := by decide +kernel
theorem dX11_lump_86 : decode cX11_lump 86 = .ok (.goto (-43), 3) := by decide +kernel
theorem dX11_lump_89 : decode cX11_lump 89 = .ok (.aload_n 0, 1) := by decide +kernel
theorem dX11_lump_90 : decode cX11_lump 90 = .ok (.invokevirtual 200, 3) := by decide +kernel
theorem dX11_lump_93 : decode cX11_lump 93 = .ok (.iload 4, 2) := by decide +kernel
theorem dX11_lump_95 : decode cX11_lump 95 = .ok (.bipush 100, 2) := by decide +kernel
theorem dX11_lump_97 : decode cX11_lump 97 = .ok (.if_icmp .le 8, 3) := by decide +kernel
theorem dX11_lump_100 : decode cX11_lump 100 = .ok (.bipush (-9), 2) := by decide +kernel
theorem dX11_lump_102 : decode cX11_lump 102 = .ok (.goto 5, 3) := by decide +kernel
theorem dX11_lump_105 : decode cX11_lump 105 = .ok (.iload 4, 2) := by decide +kernel
theorem dX11_lump_107 : decode cX11_lump 107 = .ok (.ireturn, 1) := by decide +kernel
theorem dX11_crosses_0 : decode cX11_crosses 0 = .ok (.aload_n 0, 1) := by decide +kernel
theorem dX11_crosses_1 : decode cX11_crosses 1 = .ok (.iconst 0, 1) := by decide +kernel
theorem dX11_crosses_2 : decode cX11_crosses 2 = .ok (.putfield 83, 3) := by decide +kernel
theorem dX11_crosses_5 : decode cX11_crosses 5 = .ok (.aload_n 0, 1) := by decide +kernel
theorem dX11_crosses_6 : decode cX11_crosses 6 = .ok (.iload_n 1, 1) := by decide +kernel
theorem dX11_crosses_7 : decode cX11_crosses 7 = .ok (.invokevirtual 188, 3) := by decide +kernel
theorem dX11_crosses_10 : decode cX11_crosses 10 = .ok (.ifCond .eq 16, 3) := by decide +kernel
theorem dX11_crosses_13 : decode cX11_crosses 13 = .ok (.aload_n 0, 1) := by decide +kernel
theorem dX11_crosses_14 : decode cX11_crosses 14 = .ok (.iload_n 2, 1) := by decide +kernel
theorem dX11_crosses_15 : decode cX11_crosses 15 = .ok (.invokevirtual 188, 3) := by decide +kernel
theorem dX11_crosses_18 : decode cX11_crosses 18 = .ok (.ifCond .eq 8, 3) := by decide +kernel
theorem dX11_crosses_21 : decode cX11_crosses 21 = .ok (.iload_n 1, 1) := by decide +kernel
theorem dX11_crosses_22 : decode cX11_crosses 22 = .ok (.iload_n 2, 1) := by decide +kernel
theorem dX11_crosses_23 : decode cX11_crosses 23 = .ok (.if_icmp .ne 9, 3) := by decide +kernel
theorem dX11_crosses_26 : decode cX11_crosses 26 = .ok (.aload_n 0, 1) := by decide +kernel
theorem dX11_crosses_27 : decode cX11_crosses 27 = .ok (.iconst (-1), 1) := by decide +kernel
theorem dX11_crosses_28 : decode cX11_crosses 28 = .ok (.invokevirtual 134, 3) := by decide +kernel
theorem dX11_crosses_31 : decode cX11_crosses 31 = .ok (.ireturn, 1) := by decide +kernel
theorem dX11_crosses_32 : decode cX11_crosses 32 = .ok (.bipush (-9), 2) := by decide +kernel
theorem dX11_crosses_34 : decode cX11_crosses 34 = .ok (.istore_n 3, 1) := by decide +kernel
theorem dX11_crosses_35 : decode cX11_crosses 35 = .ok (.aload_n 0, 1) := by decide +kernel
theorem dX11_crosses_36 : decode cX11_crosses 36 = .ok (.invokevirtual 194, 3) := by decide +kernel
theorem dX11_crosses_39 : decode cX11_crosses 39 = .ok (.iconst 0, 1) := by decide +kernel
theorem dX11_crosses_40 : decode cX11_crosses 40 = .ok (.istore 4, 2) := by decide +kernel
theorem dX11_crosses_42 : decode cX11_crosses 42 = .ok (.iload 4, 2) := by decide +kernel
theorem dX11_crosses_44 : decode cX11_crosses 44 = .ok (.bipush 100, 2) := by decide +kernel
theorem dX11_crosses_46 : decode cX11_crosses 46 = .ok (.if_icmp .gt 38, 3) := by decide +kernel
theorem dX11_crosses_49 : decode cX11_crosses 49 = .ok (.iload_n 3, 1) := by decide +kernel
theorem dX11_crosses_50 : decode cX11_crosses 50 = .ok (.ifCond .ge 34, 3) := by decide +kernel
theorem dX11_crosses_53 : decode cX11_crosses 53 = .ok (.aload_n 0, 1) := by decide +kernel
theorem dX11_crosses_54 : decode cX11_crosses 54 = .ok (.iload_n 1, 1) := by decide +kernel
theorem dX11_crosses_55 : decode cX11_crosses 55 = .ok (.invokevirtual 227, 3) := by decide +kernel
theorem dX11_crosses_58 : decode cX11_crosses 58 = .ok (.aload_n 0, 1) := by decide +kernel
theorem dX11_crosses_59 : decode cX11_crosses 59 = .ok (.iload_n 2, 1) := by decide +kernel
theorem dX11_crosses_60 : decode cX11_crosses 60 = .ok (.invokevirtual 227, 3) := by decide +kernel
theorem dX11_crosses_63 : decode cX11_crosses 63 = .ok (.if_icmp .ge 8, 3) := by decide +kernel
theorem dX11_crosses_66 : decode cX11_crosses 66 = .ok (.iload 4, 2) := by decide +kernel
theorem dX11_crosses_68 : decode cX11_crosses 68 = .ok (.goto 5, 3) := by decide +kernel
theorem dX11_crosses_71 : decode cX11_crosses 71 = .ok (.bipush (-9), 2) := by decide +kernel
theorem dX11_crosses_73 : decode cX11_crosses 73 = .ok (.istore_n 3, 1) := by decide +kernel
theorem dX11_crosses_74 : decode cX11_crosses 74 = .ok (.aload_n 0, 1) := by decide +kernel
theorem dX11_crosses_75 : decode cX11_crosses 75 = .ok (.invokevirtual 131, 3) := by decide +kernel
theorem dX11_crosses_78 : decode cX11_crosses 78 = .ok (.iinc 4 1, 3) := by decide +kernel
theorem dX11_crosses_81 : decode cX11_crosses 81 = .ok (.goto (-39), 3) := by decide +kernel
theorem dX11_crosses_84 : decode cX11_crosses 84 = .ok (.aload_n 0, 1) := by decide +kernel
theorem dX11_crosses_85 : decode cX11_crosses 85 = .ok (.invokevirtual 200, 3) := by decide +kernel
theorem dX11_crosses_88 : decode cX11_crosses 88 = .ok (.iload_n 3, 1) := by decide +kernel
theorem dX11_crosses_89 : decode cX11_crosses 89 = .ok (.ireturn, 1) := by decide +kernel
theorem dX11_heir_0 : decode cX11_heir 0 = .ok (.aload_n 0, 1) := by decide +kernel
theorem dX11_heir_1 : decode cX11_heir 1 = .ok (.iconst 0, 1) := by decide +kernel
theorem dX11_heir_2 : decode cX11_heir 2 = .ok (.putfield 83, 3) := by decide +kernel
theorem dX11_heir_5 : decode cX11_heir 5 = .ok (.aload_n 0, 1) := by decide +kernel
theorem dX11_heir_6 : decode cX11_heir 6 = .ok (.iload_n 1, 1) := by decide +kernel
theorem dX11_heir_7 : decode cX11_heir 7 = .ok (.invokevirtual 188, 3) := by decide +kernel
theorem dX11_heir_10 : decode cX11_heir 10 = .ok (.ifCond .ne 9, 3) := by decide +kernel
theorem dX11_heir_13 : decode cX11_heir 13 = .ok (.aload_n 0, 1) := by decide +kernel
theorem dX11_heir_14 : decode cX11_heir 14 = .ok (.iconst (-1), 1) := by decide +kernel
theorem dX11_heir_15 : decode cX11_heir 15 = .ok (.invokevirtual 134, 3) := by decide +kernel
theorem dX11_heir_18 : decode cX11_heir 18 = .ok (.ireturn, 1) := by decide +kernel
theorem dX11_heir_19 : decode cX11_heir 19 = .ok (.aload_n 0, 1) := by decide +kernel
theorem dX11_heir_20 : decode cX11_heir 20 = .ok (.invokevirtual 292, 3) := by decide +kernel
theorem dX11_heir_23 : decode cX11_heir 23 = .ok (.aload_n 0, 1) := by decide +kernel
theorem dX11_heir_24 : decode cX11_heir 24 = .ok (.getfield 7, 3) := by decide +kernel
theorem dX11_heir_27 : decode cX11_heir 27 = .ok (.iload_n 1, 1) := by decide +kernel
theorem dX11_heir_28 : decode cX11_heir 28 = .ok (.iaload, 1) := by decide +kernel
theorem dX11_heir_29 : decode cX11_heir 29 = .ok (.isub, 1) := by decide +kernel
theorem dX11_heir_30 : decode cX11_heir 30 = .ok (.istore_n 2, 1) := by decide +kernel
theorem dX11_heir_31 : decode cX11_heir 31 = .ok (.iload_n 2, 1) := by decide +kernel
theorem dX11_heir_32 : decode cX11_heir 32 = .ok (.ifCond .ne 6, 3) := by decide +kernel
theorem dX11_heir_35 : decode cX11_heir 35 = .ok (.bipush (-9), 2) := by decide +kernel
theorem dX11_heir_37 : decode cX11_heir 37 = .ok (.ireturn, 1) := by decide +kernel
theorem dX11_heir_38 : decode cX11_heir 38 = .ok (.aload_n 0, 1) := by decide +kernel
theorem dX11_heir_39 : decode cX11_heir 39 = .ok (.getfield 13, 3) := by decide +kernel
theorem dX11_heir_42 : decode cX11_heir 42 = .ok (.iload_n 1, 1) := by decide +kernel
theorem dX11_heir_43 : decode cX11_heir 43 = .ok (.iaload, 1) := by decide +kernel
theorem dX11_heir_44 : decode cX11_heir 44 = .ok (.istore_n 3, 1) := by decide +kernel
theorem dX11_heir_45 : decode cX11_heir 45 = .ok (.iconst 0, 1) := by decide +kernel
theorem dX11_heir_46 : decode cX11_heir 46 = .ok (.istore 4, 2) := by decide +kernel
theorem dX11_heir_48 : decode cX11_heir 48 = .ok (.iload 4, 2) := by decide +kernel
theorem dX11_heir_50 : decode cX11_heir 50 = .ok (.aload_n 0, 1) := by decide +kernel
theorem dX11_heir_51 : decode cX11_heir 51 = .ok (.getfield 86, 3) := by decide +kernel
theorem dX11_heir_54 : decode cX11_heir 54 = .ok (.if_icmp .ge 56, 3) := by decide +kernel
theorem dX11_heir_57 : decode cX11_heir 57 = .ok (.aload_n 0, 1) := by decide +kernel
theorem dX11_heir_58 : decode cX11_heir 58 = .ok (.getfield 41, 3) := by decide +kernel
theorem dX11_heir_61 : decode cX11_heir 61 = .ok (.iload 4, 2) := by decide +kernel
theorem dX11_heir_63 : decode cX11_heir 63 = .ok (.iload 4, 2) := by decide +kernel
theorem dX11_heir_65 : decode cX11_heir 65 = .ok (.iload_n 1, 1) := by decide +kernel
theorem dX11_heir_66 : decode cX11_heir 66 = .ok (.if_icmp .ne 7, 3) := by decide +kernel
theorem dX11_heir_69 : decode cX11_heir 69 = .ok (.iconst 0, 1) := by decide +kernel
theorem dX11_heir_70 : decode cX11_heir 70 = .ok (.goto 23, 3) := by decide +kernel
theorem dX11_heir_73 : decode cX11_heir 73 = .ok (.aload_n 0, 1) := by decide +kernel
theorem dX11_heir_74 : decode cX11_heir 74 = .ok (.getfield 13, 3) := by decide +kernel
theorem dX11_heir_77 : decode cX11_heir 77 = .ok (.iload_n 1, 1) := by decide +kernel
theorem dX11_heir_78 : decode cX11_heir 78 = .ok (.iaload, 1) := by decide +kernel
theorem dX11_heir_79 : decode cX11_heir 79 = .ok (.i2l, 1) := by decide +kernel
theorem dX11_heir_80 : decode cX11_heir 80 = .ok (.aload_n 0, 1) := by decide +kernel
theorem dX11_heir_81 : decode cX11_heir 81 = .ok (.getfield 7, 3) := by decide +kernel
theorem dX11_heir_84 : decode cX11_heir 84 = .ok (.iload 4, 2) := by decide +kernel
theorem dX11_heir_86 : decode cX11_heir 86 = .ok (.iaload, 1) := by decide +kernel
theorem dX11_heir_87 : decode cX11_heir 87 = .ok (.i2l, 1) := by decide +kernel
theorem dX11_heir_88 : decode cX11_heir 88 = .ok (.lmul, 1) := by decide +kernel
theorem dX11_heir_89 : decode cX11_heir 89 = .ok (.iload_n 2, 1) := by decide +kernel
theorem dX11_heir_90 : decode cX11_heir 90 = .ok (.i2l, 1) := by decide +kernel
theorem dX11_heir_91 : decode cX11_heir 91 = .ok (.ldiv, 1) := by decide +kernel
theorem dX11_heir_92 : decode cX11_heir 92 = .ok (.l2i, 1) := by decide +kernel
theorem dX11_heir_93 : decode cX11_heir 93 = .ok (.iastore, 1) := by decide +kernel
theorem dX11_heir_94 : decode cX11_heir 94 = .ok (.iload_n 3, 1) := by decide +kernel
theorem dX11_heir_95 : decode cX11_heir 95 = .ok (.aload_n 0, 1) := by decide +kernel
theorem dX11_heir_96 : decode cX11_heir 96 = .ok (.getfield 41, 3) := by decide +kernel
theorem dX11_heir_99 : decode cX11_heir 99 = .ok (.iload 4, 2) := by decide +kernel
theorem dX11_heir_101 : decode cX11_heir 101 = .ok (.iaload, 1) := by decide +kernel
theorem dX11_heir_102 : decode cX11_heir 102 = .ok (.isub, 1) := by decide +kernel
theorem dX11_heir_103 : decode cX11_heir 103 = .ok (.istore_n 3, 1) := by decide +kernel
theorem dX11_heir_104 : decode cX11_heir 104 = .ok (.iinc 4 1, 3) := by decide +kernel
theorem dX11_heir_107 : decode cX11_heir 107 = .ok (.goto (-59), 3) := by decide +kernel
theorem dX11_heir_110 : decode cX11_heir 110 = .ok (.iconst 0, 1) := by decide +kernel
theorem dX11_heir_111 : decode cX11_heir 111 = .ok (.istore 4, 2) := by decide +kernel
theorem dX11_heir_113 : decode cX11_heir 113 = .ok (.iconst 0, 1) := by decide +kernel
theorem dX11_heir_114 : decode cX11_heir 114 = .ok (.istore 5, 2) := by decide +kernel
theorem dX11_heir_116 : decode cX11_heir 116 = .ok (.iload 5, 2) := by decide +kernel
theorem dX11_heir_118 : decode cX11_heir 118 = .ok (.aload_n 0, 1) := by decide +kernel
theorem dX11_heir_119 : decode cX11_heir 119 = .ok (.getfield 86, 3) := by decide +kernel
theorem dX11_heir_122 : decode cX11_heir 122 = .ok (.if_icmp .ge 101, 3) := by decide +kernel
theorem dX11_heir_125 : decode cX11_heir 125 = .ok (.iload 5, 2) := by decide +kernel
theorem dX11_heir_127 : decode cX11_heir 127 = .ok (.iload_n 1, 1) := by decide +kernel
theorem dX11_heir_128 : decode cX11_heir 128 = .ok (.if_icmp .eq 11, 3) := by decide +kernel
theorem dX11_heir_131 : decode cX11_heir 131 = .ok (.iload_n 3, 1) := by decide +kernel
theorem dX11_heir_132 : decode cX11_heir 132 = .ok (.ifCond .le 7, 3) := by decide +kernel
theorem dX11_heir_135 : decode cX11_heir 135 = .ok (.iconst 1, 1) := by decide +kernel
theorem dX11_heir_136 : decode cX11_heir 136 = .ok (.goto 4, 3) := by decide +kernel
theorem dX11_heir_139 : decode cX11_heir 139 = .ok (.iconst 0, 1) := by decide +kernel
theorem dX11_heir_140 : decode cX11_heir 140 = .ok (.istore 6, 2) := by decide +kernel
theorem dX11_heir_142 : decode cX11_heir 142 = .ok (.iload_n 3, 1) := by decide +kernel
theorem dX11_heir_143 : decode cX11_heir 143 = .ok (.iload 6, 2) := by decide +kernel
theorem dX11_heir_145 : decode cX11_heir 145 = .ok (.isub, 1) := by decide +kernel
theorem dX11_heir_146 : decode cX11_heir 146 = .ok (.istore_n 3, 1) := by decide +kernel
theorem dX11_heir_147 : decode cX11_heir 147 = .ok (.aload_n 0, 1) := by decide +kernel
theorem dX11_heir_148 : decode cX11_heir 148 = .ok (.getfield 13, 3) := by decide +kernel
theorem dX11_heir_151 : decode cX11_heir 151 = .ok (.iload 5, 2) := by decide +kernel
theorem dX11_heir_153 : decode cX11_heir 153 = .ok (.iaload, 1) := by decide +kernel
theorem dX11_heir_154 : decode cX11_heir 154 = .ok (.aload_n 0, 1) := by decide +kernel
theorem dX11_heir_155 : decode cX11_heir 155 = .ok (.getfield 41, 3) := by decide +kernel
theorem dX11_heir_158 : decode cX11_heir 158 = .ok (.iload 5, 2) := by decide +kernel
theorem dX11_heir_160 : decode cX11_heir 160 = .ok (.iaload, 1) := by decide +kernel
theorem dX11_heir_161 : decode cX11_heir 161 = .ok (.iadd, 1) := by decide +kernel
theorem dX11_heir_162 : decode cX11_heir 162 = .ok (.iload 6, 2) := by decide +kernel
theorem dX11_heir_164 : decode cX11_heir 164 = .ok (.iadd, 1) := by decide +kernel
theorem dX11_heir_165 : decode cX11_heir 165 = .ok (.iconst 0, 1) := by decide +kernel
theorem dX11_heir_166 : decode cX11_heir 166 = .ok (.ldc 96, 2) := by decide +kernel
theorem dX11_heir_168 : decode cX11_heir 168 = .ok (.invokestatic 97, 3) := by decide +kernel
theorem dX11_heir_171 : decode cX11_heir 171 = .ok (.istore 7, 2) := by decide +kernel
theorem dX11_heir_173 : decode cX11_heir 173 = .ok (.iload 7, 2) := by decide +kernel
theorem dX11_heir_175 : decode cX11_heir 175 = .ok (.aload_n 0, 1) := by decide +kernel
theorem dX11_heir_176 : decode cX11_heir 176 = .ok (.getfield 7, 3) := by decide +kernel
theorem dX11_heir_179 : decode cX11_heir 179 = .ok (.iload 5, 2) := by decide +kernel
theorem dX11_heir_181 : decode cX11_heir 181 = .ok (.iaload, 1) := by decide +kernel
theorem dX11_heir_182 : decode cX11_heir 182 = .ok (.iadd, 1) := by decide +kernel
theorem dX11_heir_183 : decode cX11_heir 183 = .ok (.iconst 1, 1) := by decide +kernel
theorem dX11_heir_184 : decode cX11_heir 184 = .ok (.isub, 1) := by decide +kernel
theorem dX11_heir_185 : decode cX11_heir 185 = .ok (.aload_n 0, 1) := by decide +kernel
theorem dX11_heir_186 : decode cX11_heir 186 = .ok (.getfield 7, 3) := by decide +kernel
theorem dX11_heir_189 : decode cX11_heir 189 = .ok (.iload 5, 2) := by decide +kernel
theorem dX11_heir_191 : decode cX11_heir 191 = .ok (.iaload, 1) := by decide +kernel
theorem dX11_heir_192 : decode cX11_heir 192 = .ok (.idiv, 1) := by decide +kernel
theorem dX11_heir_193 : decode cX11_heir 193 = .ok (.istore 8, 2) := by decide +kernel
theorem dX11_heir_195 : decode cX11_heir 195 = .ok (.iload 5, 2) := by decide +kernel
theorem dX11_heir_197 : decode cX11_heir 197 = .ok (.iload_n 1, 1) := by decide +kernel
theorem dX11_heir_198 : decode cX11_heir 198 = .ok (.if_icmp .eq 15, 3) := by decide +kernel
theorem dX11_heir_201 : decode cX11_heir 201 = .ok (.iload 8, 2) := by decide +kernel
theorem dX11_heir_203 : decode cX11_heir 203 = .ok (.iload 4, 2) := by decide +kernel
theorem dX11_heir_205 : decode cX11_heir 205 = .ok (.if_icmp .le 8, 3) := by decide +kernel
theorem dX11_heir_208 : decode cX11_heir 208 = .ok (.iload 8, 2) := by decide +kernel
theorem dX11_heir_210 : decode cX11_heir 210 = .ok (.goto 5, 3) := by decide +kernel
theorem dX11_heir_213 : decode cX11_heir 213 = .ok (.iload 4, 2) := by decide +kernel
theorem dX11_heir_215 : decode cX11_heir 215 = .ok (.istore 4, 2) := by decide +kernel
theorem dX11_heir_217 : decode cX11_heir 217 = .ok (.iinc 5 1, 3) := by decide +kernel
theorem dX11_heir_220 : decode cX11_heir 220 = .ok (.goto (-104), 3) := by decide +kernel
theorem dX11_heir_223 : decode cX11_heir 223 = .ok (.iload 4, 2) := by decide +kernel
theorem dX11_heir_225 : decode cX11_heir 225 = .ok (.ireturn, 1) := by decide +kernel
theorem dX11_rank_0 : decode cX11_rank 0 = .ok (.aload_n 0, 1) := by decide +kernel
theorem dX11_rank_1 : decode cX11_rank 1 = .ok (.iconst 0, 1) := by decide +kernel
theorem dX11_rank_2 : decode cX11_rank 2 = .ok (.putfield 83, 3) := by decide +kernel
theorem dX11_rank_5 : decode cX11_rank 5 = .ok (.iload_n 1, 1) := by decide +kernel
theorem dX11_rank_6 : decode cX11_rank 6 = .ok (.ifCond .ge 10, 3) := by decide +kernel
theorem dX11_rank_9 : decode cX11_rank 9 = .ok (.aload_n 0, 1) := by decide +kernel
theorem dX11_rank_10 : decode cX11_rank 10 = .ok (.bipush (-4), 2) := by decide +kernel
theorem dX11_rank_12 : decode cX11_rank 12 = .ok (.invokevirtual 134, 3) := by decide +kernel
theorem dX11_rank_15 : decode cX11_rank 15 = .ok (.ireturn, 1) := by decide +kernel
theorem dX11_rank_16 : decode cX11_rank 16 = .ok (.iconst 0, 1) := by decide +kernel
theorem dX11_rank_17 : decode cX11_rank 17 = .ok (.istore_n 2, 1) := by decide +kernel
theorem dX11_rank_18 : decode cX11_rank 18 = .ok (.iload_n 2, 1) := by decide +kernel
theorem dX11_rank_19 : decode cX11_rank 19 = .ok (.aload_n 0, 1) := by decide +kernel
theorem dX11_rank_20 : decode cX11_rank 20 = .ok (.getfield 86, 3) := by decide +kernel
theorem dX11_rank_23 : decode cX11_rank 23 = .ok (.if_icmp .ge 78, 3) := by decide +kernel
theorem dX11_rank_26 : decode cX11_rank 26 = .ok (.iconst 0, 1) := by decide +kernel
theorem dX11_rank_27 : decode cX11_rank 27 = .ok (.istore_n 3, 1) := by decide +kernel
theorem dX11_rank_28 : decode cX11_rank 28 = .ok (.iconst 0, 1) := by decide +kernel
theorem dX11_rank_29 : decode cX11_rank 29 = .ok (.istore 4, 2) := by decide +kernel
theorem dX11_rank_31 : decode cX11_rank 31 = .ok (.iload 4, 2) := by decide +kernel
theorem dX11_rank_33 : decode cX11_rank 33 = .ok (.aload_n 0, 1) := by decide +kernel
theorem dX11_rank_34 : decode cX11_rank 34 = .ok (.getfield 86, 3) := by decide +kernel
theorem dX11_rank_37 : decode cX11_rank 37 = .ok (.if_icmp .ge 51, 3) := by decide +kernel
theorem dX11_rank_40 : decode cX11_rank 40 = .ok (.iload_n 3, 1) := by decide +kernel
theorem dX11_rank_41 : decode cX11_rank 41 = .ok (.aload_n 0, 1) := by decide +kernel
theorem dX11_rank_42 : decode cX11_rank 42 = .ok (.iload 4, 2) := by decide +kernel
theorem dX11_rank_44 : decode cX11_rank 44 = .ok (.invokevirtual 227, 3) := by decide +kernel
theorem dX11_rank_47 : decode cX11_rank 47 = .ok (.aload_n 0, 1) := by decide +kernel
theorem dX11_rank_48 : decode cX11_rank 48 = .ok (.iload_n 2, 1) := by decide +kernel
theorem dX11_rank_49 : decode cX11_rank 49 = .ok (.invokevirtual 227, 3) := by decide +kernel
theorem dX11_rank_52 : decode cX11_rank 52 = .ok (.if_icmp .gt 23, 3) := by decide +kernel
theorem dX11_rank_55 : decode cX11_rank 55 = .ok (.aload_n 0, 1) := by decide +kernel
theorem dX11_rank_56 : decode cX11_rank 56 = .ok (.iload 4, 2) := by decide +kernel
theorem dX11_rank_58 : decode cX11_rank 58 = .ok (.invokevirtual 227, 3) := by decide +kernel
theorem dX11_rank_61 : decode cX11_rank 61 = .ok (.aload_n 0, 1) := by decide +kernel
theorem dX11_rank_62 : decode cX11_rank 62 = .ok (.iload_n 2, 1) := by decide +kernel
theorem dX11_rank_63 : decode cX11_rank 63 = .ok (.invokevirtual 227, 3) := by decide +kernel
theorem dX11_rank_66 : decode cX11_rank 66 = .ok (.if_icmp .ne 13, 3) := by decide +kernel
theorem dX11_rank_69 : decode cX11_rank 69 = .ok (.iload 4, 2) := by decide +kernel
theorem dX11_rank_71 : decode cX11_rank 71 = .ok (.iload_n 2, 1) := by decide +kernel
theorem dX11_rank_72 : decode cX11_rank 72 = .ok (.if_icmp .ge 7, 3) := by decide +kernel
theorem dX11_rank_75 : decode cX11_rank 75 = .ok (.iconst 1, 1) := by decide +kernel
theorem dX11_rank_76 : decode cX11_rank 76 = .ok (.goto 4, 3) := by decide +kernel
theorem dX11_rank_79 : decode cX11_rank 79 = .ok (.iconst 0, 1) := by decide +kernel
theorem dX11_rank_80 : decode cX11_rank 80 = .ok (.iadd, 1) := by decide +kernel
theorem dX11_rank_81 : decode cX11_rank 81 = .ok (.istore_n 3, 1) := by decide +kernel
theorem dX11_rank_82 : decode cX11_rank 82 = .ok (.iinc 4 1, 3) := by decide +kernel
theorem dX11_rank_85 : decode cX11_rank 85 = .ok (.goto (-54), 3) := by decide +kernel
theorem dX11_rank_88 : decode cX11_rank 88 = .ok (.iload_n 3, 1) := by decide +kernel
theorem dX11_rank_89 : decode cX11_rank 89 = .ok (.iload_n 1, 1) := by decide +kernel
theorem dX11_rank_90 : decode cX11_rank 90 = .ok (.if_icmp .ne 5, 3) := by decide +kernel
theorem dX11_rank_93 : decode cX11_rank 93 = .ok (.iload_n 2, 1) := by decide +kernel
theorem dX11_rank_94 : decode cX11_rank 94 = .ok (.ireturn, 1) := by decide +kernel
theorem dX11_rank_95 : decode cX11_rank 95 = .ok (.iinc 2 1, 3) := by decide +kernel
theorem dX11_rank_98 : decode cX11_rank 98 = .ok (.goto (-80), 3) := by decide +kernel
theorem dX11_rank_101 : decode cX11_rank 101 = .ok (.bipush (-9), 2) := by decide +kernel
theorem dX11_rank_103 : decode cX11_rank 103 = .ok (.ireturn, 1) := by decide +kernel
theorem dX11_half_0 : decode cX11_half 0 = .ok (.aload_n 0, 1) := by decide +kernel
theorem dX11_half_1 : decode cX11_half 1 = .ok (.iconst 0, 1) := by decide +kernel
theorem dX11_half_2 : decode cX11_half 2 = .ok (.putfield 83, 3) := by decide +kernel
theorem dX11_half_5 : decode cX11_half 5 = .ok (.aload_n 0, 1) := by decide +kernel
theorem dX11_half_6 : decode cX11_half 6 = .ok (.invokevirtual 235, 3) := by decide +kernel
theorem dX11_half_9 : decode cX11_half 9 = .ok (.istore_n 1, 1) := by decide +kernel
theorem dX11_half_10 : decode cX11_half 10 = .ok (.bipush (-9), 2) := by decide +kernel
theorem dX11_half_12 : decode cX11_half 12 = .ok (.istore_n 2, 1) := by decide +kernel
theorem dX11_half_13 : decode cX11_half 13 = .ok (.aload_n 0, 1) := by decide +kernel
theorem dX11_half_14 : decode cX11_half 14 = .ok (.invokevirtual 194, 3) := by decide +kernel
theorem dX11_half_17 : decode cX11_half 17 = .ok (.iconst 0, 1) := by decide +kernel
theorem dX11_half_18 : decode cX11_half 18 = .ok (.istore_n 3, 1) := by decide +kernel
theorem dX11_half_19 : decode cX11_half 19 = .ok (.iload_n 3, 1) := by decide +kernel
theorem dX11_half_20 : decode cX11_half 20 = .ok (.bipush 100, 2) := by decide +kernel
theorem dX11_half_22 : decode cX11_half 22 = .ok (.if_icmp .gt 34, 3) := by decide +kernel
theorem dX11_half_25 : decode cX11_half 25 = .ok (.iload_n 2, 1) := by decide +kernel
theorem dX11_half_26 : decode cX11_half 26 = .ok (.ifCond .ge 30, 3) := by decide +kernel
theorem dX11_half_29 : decode cX11_half 29 = .ok (.iconst 2, 1) := by decide +kernel
theorem dX11_half_30 : decode cX11_half 30 = .ok (.aload_n 0, 1) := by decide +kernel
theorem dX11_half_31 : decode cX11_half 31 = .ok (.invokevirtual 235, 3) := by decide +kernel
theorem dX11_half_34 : decode cX11_half 34 = .ok (.imul, 1) := by decide +kernel
theorem dX11_half_35 : decode cX11_half 35 = .ok (.iload_n 1, 1) := by decide +kernel
theorem dX11_half_36 : decode cX11_half 36 = .ok (.if_icmp .gt 7, 3) := by decide +kernel
theorem dX11_half_39 : decode cX11_half 39 = .ok (.iload_n 3, 1) := by decide +kernel
theorem dX11_half_40 : decode cX11_half 40 = .ok (.goto 5, 3) := by decide +kernel
theorem dX11_half_43 : decode cX11_half 43 = .ok (.bipush (-9), 2) := by decide +kernel
theorem dX11_half_45 : decode cX11_half 45 = .ok (.istore_n 2, 1) := by decide +kernel
theorem dX11_half_46 : decode cX11_half 46 = .ok (.aload_n 0, 1) := by decide +kernel
theorem dX11_half_47 : decode cX11_half 47 = .ok (.invokevirtual 131, 3) := by decide +kernel
theorem dX11_half_50 : decode cX11_half 50 = .ok (.iinc 3 1, 3) := by decide +kernel
theorem dX11_half_53 : decode cX11_half 53 = .ok (.goto (-34), 3) := by decide +kernel
theorem dX11_half_56 : decode cX11_half 56 = .ok (.aload_n 0, 1) := by decide +kernel
theorem dX11_half_57 : decode cX11_half 57 = .ok (.invokevirtual 200, 3) := by decide +kernel
theorem dX11_half_60 : decode cX11_half 60 = .ok (.iload_n 2, 1) := by decide +kernel
theorem dX11_half_61 : decode cX11_half 61 = .ok (.ireturn, 1) := by decide +kernel
theorem dX11_row_0 : decode cX11_row 0 = .ok (.aload_n 0, 1) := by decide +kernel
theorem dX11_row_1 : decode cX11_row 1 = .ok (.iconst 0, 1) := by decide +kernel
theorem dX11_row_2 : decode cX11_row 2 = .ok (.putfield 83, 3) := by decide +kernel
theorem dX11_row_5 : decode cX11_row 5 = .ok (.iload_n 1, 1) := by decide +kernel
theorem dX11_row_6 : decode cX11_row 6 = .ok (.ifCond .ge 10, 3) := by decide +kernel
theorem dX11_row_9 : decode cX11_row 9 = .ok (.aload_n 0, 1) := by decide +kernel
theorem dX11_row_10 : decode cX11_row 10 = .ok (.bipush (-4), 2) := by decide +kernel
theorem dX11_row_12 : decode cX11_row 12 = .ok (.invokevirtual 134, 3) := by decide +kernel
theorem dX11_row_15 : decode cX11_row 15 = .ok (.ireturn, 1) := by decide +kernel
theorem dX11_row_16 : decode cX11_row 16 = .ok (.iload_n 1, 1) := by decide +kernel
theorem dX11_row_17 : decode cX11_row 17 = .ok (.bipush 99, 2) := by decide +kernel
theorem dX11_row_19 : decode cX11_row 19 = .ok (.if_icmp .gt 12, 3) := by decide +kernel
theorem dX11_row_22 : decode cX11_row 22 = .ok (.aload_n 0, 1) := by decide +kernel
theorem dX11_row_23 : decode cX11_row 23 = .ok (.getfield 295, 3) := by decide +kernel
theorem dX11_row_26 : decode cX11_row 26 = .ok (.bipush 12, 2) := by decide +kernel
theorem dX11_row_28 : decode cX11_row 28 = .ok (.if_icmp .ne 10, 3) := by decide +kernel
theorem dX11_row_31 : decode cX11_row 31 = .ok (.aload_n 0, 1) := by decide +kernel
theorem dX11_row_32 : decode cX11_row 32 = .ok (.bipush (-6), 2) := by decide +kernel
theorem dX11_row_34 : decode cX11_row 34 = .ok (.invokevirtual 134, 3) := by decide +kernel
theorem dX11_row_37 : decode cX11_row 37 = .ok (.ireturn, 1) := by decide +kernel
theorem dX11_row_38 : decode cX11_row 38 = .ok (.aload_n 0, 1) := by decide +kernel
theorem dX11_row_39 : decode cX11_row 39 = .ok (.getfield 74, 3) := by decide +kernel
theorem dX11_row_42 : decode cX11_row 42 = .ok (.aload_n 0, 1) := by decide +kernel
theorem dX11_row_43 : decode cX11_row 43 = .ok (.getfield 295, 3) := by decide +kernel
theorem dX11_row_46 : decode cX11_row 46 = .ok (.iload_n 1, 1) := by decide +kernel
theorem dX11_row_47 : decode cX11_row 47 = .ok (.iastore, 1) := by decide +kernel
theorem dX11_row_48 : decode cX11_row 48 = .ok (.aload_n 0, 1) := by decide +kernel
theorem dX11_row_49 : decode cX11_row 49 = .ok (.dup, 1) := by decide +kernel
theorem dX11_row_50 : decode cX11_row 50 = .ok (.getfield 295, 3) := by decide +kernel
theorem dX11_row_53 : decode cX11_row 53 = .ok (.iconst 1, 1) := by decide +kernel
theorem dX11_row_54 : decode cX11_row 54 = .ok (.iadd, 1) := by decide +kernel
theorem dX11_row_55 : decode cX11_row 55 = .ok (.putfield 295, 3) := by decide +kernel
theorem dX11_row_58 : decode cX11_row 58 = .ok (.aload_n 0, 1) := by decide +kernel
theorem dX11_row_59 : decode cX11_row 59 = .ok (.getfield 295, 3) := by decide +kernel
theorem dX11_row_62 : decode cX11_row 62 = .ok (.ireturn, 1) := by decide +kernel
theorem dX11_judge_0 : decode cX11_judge 0 = .ok (.aload_n 0, 1) := by decide +kernel
theorem dX11_judge_1 : decode cX11_judge 1 = .ok (.iconst 0, 1) := by decide +kernel
theorem dX11_judge_2 : decode cX11_judge 2 = .ok (.putfield 83, 3) := by decide +kernel
theorem dX11_judge_5 : decode cX11_judge 5 = .ok (.aload_n 0, 1) := by decide +kernel
theorem dX11_judge_6 : decode cX11_judge 6 = .ok (.iload_n 1, 1) := by decide +kernel
theorem dX11_judge_7 : decode cX11_judge 7 = .ok (.invokevirtual 188, 3) := by decide +kernel
theorem dX11_judge_10 : decode cX11_judge 10 = .ok (.ifCond .ne 9, 3) := by decide +kernel
theorem dX11_judge_13 : decode cX11_judge 13 = .ok (.aload_n 0, 1) := by decide +kernel
theorem dX11_judge_14 : decode cX11_judge 14 = .ok (.iconst (-1), 1) := by decide +kernel
theorem dX11_judge_15 : decode cX11_judge 15 = .ok (.invokevirtual 134, 3) := by decide +kernel
theorem dX11_judge_18 : decode cX11_judge 18 = .ok (.ireturn, 1) := by decide +kernel
theorem dX11_judge_19 : decode cX11_judge 19 = .ok (.aload_n 0, 1) := by decide +kernel
theorem dX11_judge_20 : decode cX11_judge 20 = .ok (.getfield 295, 3) := by decide +kernel
theorem dX11_judge_23 : decode cX11_judge 23 = .ok (.istore_n 2, 1) := by decide +kernel
theorem dX11_judge_24 : decode cX11_judge 24 = .ok (.aload_n 0, 1) := by decide +kernel
theorem dX11_judge_25 : decode cX11_judge 25 = .ok (.iconst 0, 1) := by decide +kernel
theorem dX11_judge_26 : decode cX11_judge 26 = .ok (.putfield 295, 3) := by decide +kernel
theorem dX11_judge_29 : decode cX11_judge 29 = .ok (.bipush (-9), 2) := by decide +kernel
theorem dX11_judge_31 : decode cX11_judge 31 = .ok (.istore_n 3, 1) := by decide +kernel
theorem dX11_judge_32 : decode cX11_judge 32 = .ok (.aload_n 0, 1) := by decide +kernel
theorem dX11_judge_33 : decode cX11_judge 33 = .ok (.invokevirtual 194, 3) := by decide +kernel
theorem dX11_judge_36 : decode cX11_judge 36 = .ok (.iconst 0, 1) := by decide +kernel
theorem dX11_judge_37 : decode cX11_judge 37 = .ok (.istore 4, 2) := by decide +kernel
theorem dX11_judge_39 : decode cX11_judge 39 = .ok (.iload 4, 2) := by decide +kernel
theorem dX11_judge_41 : decode cX11_judge 41 = .ok (.iload_n 2, 1) := by decide +kernel
theorem dX11_judge_42 : decode cX11_judge 42 = .ok (.if_icmp .ge 51, 3) := by decide +kernel
theorem dX11_judge_45 : decode cX11_judge 45 = .ok (.iload_n 3, 1) := by decide +kernel
theorem dX11_judge_46 : decode cX11_judge 46 = .ok (.ifCond .ge 47, 3) := by decide +kernel
theorem dX11_judge_49 : decode cX11_judge 49 = .ok (.iload 4, 2) := by decide +kernel
theorem dX11_judge_51 : decode cX11_judge 51 = .ok (.ifCond .le 7, 3) := by decide +kernel
theorem dX11_judge_54 : decode cX11_judge 54 = .ok (.aload_n 0, 1) := by decide +kernel
theorem dX11_judge_55 : decode cX11_judge 55 = .ok (.invokevirtual 131, 3) := by decide +kernel
theorem dX11_judge_58 : decode cX11_judge 58 = .ok (.aload_n 0, 1) := by decide +kernel
theorem dX11_judge_59 : decode cX11_judge 59 = .ok (.iload_n 1, 1) := by decide +kernel
theorem dX11_judge_60 : decode cX11_judge 60 = .ok (.invokevirtual 227, 3) := by decide +kernel
theorem dX11_judge_63 : decode cX11_judge 63 = .ok (.iconst 0, 1) := by decide +kernel
theorem dX11_judge_64 : decode cX11_judge 64 = .ok (.bipush 99, 2) := by decide +kernel
theorem dX11_judge_66 : decode cX11_judge 66 = .ok (.invokestatic 97, 3) := by decide +kernel
theorem dX11_judge_69 : decode cX11_judge 69 = .ok (.aload_n 0, 1) := by decide +kernel
theorem dX11_judge_70 : decode cX11_judge 70 = .ok (.getfield 74, 3) := by decide +kernel
theorem dX11_judge_73 : decode cX11_judge 73 = .ok (.iload 4, 2) := by decide +kernel
theorem dX11_judge_75 : decode cX11_judge 75 = .ok (.iaload, 1) := by decide +kernel
theorem dX11_judge_76 : decode cX11_judge 76 = .ok (.if_icmp .ne 8, 3) := by decide +kernel
theorem dX11_judge_79 : decode cX11_judge 79 = .ok (.bipush (-9), 2) := by decide +kernel
theorem dX11_judge_81 : decode cX11_judge 81 = .ok (.goto 5, 3) := by decide +kernel
theorem dX11_judge_84 : decode cX11_judge 84 = .ok (.iload 4, 2) := by decide +kernel
theorem dX11_judge_86 : decode cX11_judge 86 = .ok (.istore_n 3, 1) := by decide +kernel
theorem dX11_judge_87 : decode cX11_judge 87 = .ok (.iinc 4 1, 3) := by decide +kernel
theorem dX11_judge_90 : decode cX11_judge 90 = .ok (.goto (-51), 3) := by decide +kernel
theorem dX11_judge_93 : decode cX11_judge 93 = .ok (.aload_n 0, 1) := by decide +kernel
theorem dX11_judge_94 : decode cX11_judge 94 = .ok (.invokevirtual 200, 3) := by decide +kernel
theorem dX11_judge_97 : decode cX11_judge 97 = .ok (.iload_n 3, 1) := by decide +kernel
theorem dX11_judge_98 : decode cX11_judge 98 = .ok (.ireturn, 1) := by decide +kernel
theorem dX11_clear_0 : decode cX11_clear 0 = .ok (.aload_n 0, 1) := by decide +kernel
theorem dX11_clear_1 : decode cX11_clear 1 = .ok (.iconst 0, 1) := by decide +kernel
theorem dX11_clear_2 : decode cX11_clear 2 = .ok (.putfield 83, 3) := by decide +kernel
theorem dX11_clear_5 : decode cX11_clear 5 = .ok (.aload_n 0, 1) := by decide +kernel
theorem dX11_clear_6 : decode cX11_clear 6 = .ok (.getfield 295, 3) := by decide +kernel
theorem dX11_clear_9 : decode cX11_clear 9 = .ok (.istore_n 1, 1) := by decide +kernel
theorem dX11_clear_10 : decode cX11_clear 10 = .ok (.aload_n 0, 1) := by decide +kernel
theorem dX11_clear_11 : decode cX11_clear 11 = .ok (.iconst 0, 1) := by decide +kernel
theorem dX11_clear_12 : decode cX11_clear 12 = .ok (.putfield 295, 3) := by decide +kernel
theorem dX11_clear_15 : decode cX11_clear 15 = .ok (.iload_n 1, 1) := by decide +kernel
theorem dX11_clear_16 : decode cX11_clear 16 = .ok (.ireturn, 1) := by decide +kernel
theorem dX11_drawBelow_0 : decode cX11_drawBelow 0 = .ok (.aload_n 0, 1) := by decide +kernel
theorem dX11_drawBelow_1 : decode cX11_drawBelow 1 = .ok (.aload_n 0, 1) := by decide +kernel
theorem dX11_drawBelow_2 : decode cX11_drawBelow 2 = .ok (.getfield 304, 3) := by decide +kernel
theorem dX11_drawBelow_5 : decode cX11_drawBelow 5 = .ok (.ldc_w 307, 3) := by decide +kernel
theorem dX11_drawBelow_8 : decode cX11_drawBelow 8 = .ok (.imul, 1) := by decide +kernel
theorem dX11_drawBelow_9 : decode cX11_drawBelow 9 = .ok (.sipush 12345, 3) := by decide +kernel
theorem dX11_drawBelow_12 : decode cX11_drawBelow 12 = .ok (.iadd, 1) := by decide +kernel
theorem dX11_drawBelow_13 : decode cX11_drawBelow 13 = .ok (.putfield 304, 3) := by decide +kernel
theorem dX11_drawBelow_16 : decode cX11_drawBelow 16 = .ok (.aload_n 0, 1) := by decide +kernel
theorem dX11_drawBelow_17 : decode cX11_drawBelow 17 = .ok (.getfield 304, 3) := by decide +kernel
theorem dX11_drawBelow_20 : decode cX11_drawBelow 20 = .ok (.ldc_w 308, 3) := by decide +kernel
theorem dX11_drawBelow_23 : decode cX11_drawBelow 23 = .ok (.iand, 1) := by decide +kernel
theorem dX11_drawBelow_24 : decode cX11_drawBelow 24 = .ok (.ldc_w 309, 3) := by decide +kernel
theorem dX11_drawBelow_27 : decode cX11_drawBelow 27 = .ok (.idiv, 1) := by decide +kernel
theorem dX11_drawBelow_28 : decode cX11_drawBelow 28 = .ok (.iload_n 1, 1) := by decide +kernel
theorem dX11_drawBelow_29 : decode cX11_drawBelow 29 = .ok (.irem, 1) := by decide +kernel
theorem dX11_drawBelow_30 : decode cX11_drawBelow 30 = .ok (.ireturn, 1) := by decide +kernel
theorem dX11_lots_0 : decode cX11_lots 0 = .ok (.aload_n 0, 1) := by decide +kernel
theorem dX11_lots_1 : decode cX11_lots 1 = .ok (.iconst 0, 1) := by decide +kernel
theorem dX11_lots_2 : decode cX11_lots 2 = .ok (.putfield 83, 3) := by decide +kernel
theorem dX11_lots_5 : decode cX11_lots 5 = .ok (.iload_n 1, 1) := by decide +kernel
theorem dX11_lots_6 : decode cX11_lots 6 = .ok (.iconst 1, 1) := by decide +kernel
theorem dX11_lots_7 : decode cX11_lots 7 = .ok (.bipush 20, 2) := by decide +kernel
theorem dX11_lots_9 : decode cX11_lots 9 = .ok (.invokestatic 238, 3) := by decide +kernel
theorem dX11_lots_12 : decode cX11_lots 12 = .ok (.iload_n 3, 1) := by decide +kernel
theorem dX11_lots_13 : decode cX11_lots 13 = .ok (.iconst 1, 1) := by decide +kernel
theorem dX11_lots_14 : decode cX11_lots 14 = .ok (.invokestatic 241, 3) := by decide +kernel
theorem dX11_lots_17 : decode cX11_lots 17 = .ok (.istore 4, 2) := by decide +kernel
theorem dX11_lots_19 : decode cX11_lots 19 = .ok (.iload 4, 2) := by decide +kernel
theorem dX11_lots_21 : decode cX11_lots 21 = .ok (.ifCond .ge 10, 3) := by decide +kernel
theorem dX11_lots_24 : decode cX11_lots 24 = .ok (.aload_n 0, 1) := by decide +kernel
theorem dX11_lots_25 : decode cX11_lots 25 = .ok (.iload 4, 2) := by decide +kernel
theorem dX11_lots_27 : decode cX11_lots 27 = .ok (.invokevirtual 134, 3) := by decide +kernel
theorem dX11_lots_30 : decode cX11_lots 30 = .ok (.ireturn, 1) := by decide +kernel
theorem dX11_lots_31 : decode cX11_lots 31 = .ok (.aload_n 0, 1) := by decide +kernel
theorem dX11_lots_32 : decode cX11_lots 32 = .ok (.iload_n 2, 1) := by decide +kernel
theorem dX11_lots_33 : decode cX11_lots 33 = .ok (.putfield 304, 3) := by decide +kernel
theorem dX11_lots_36 : decode cX11_lots 36 = .ok (.iconst 0, 1) := by decide +kernel
theorem dX11_lots_37 : decode cX11_lots 37 = .ok (.istore 5, 2) := by decide +kernel
theorem dX11_lots_39 : decode cX11_lots 39 = .ok (.iconst 0, 1) := by decide +kernel
theorem dX11_lots_40 : decode cX11_lots 40 = .ok (.istore 6, 2) := by decide +kernel
theorem dX11_lots_42 : decode cX11_lots 42 = .ok (.aload_n 0, 1) := by decide +kernel
theorem dX11_lots_43 : decode cX11_lots 43 = .ok (.invokevirtual 194, 3) := by decide +kernel
theorem dX11_lots_46 : decode cX11_lots 46 = .ok (.iconst 0, 1) := by decide +kernel
theorem dX11_lots_47 : decode cX11_lots 47 = .ok (.istore 7, 2) := by decide +kernel
theorem dX11_lots_49 : decode cX11_lots 49 = .ok (.iload 7, 2) := by decide +kernel
theorem dX11_lots_51 : decode cX11_lots 51 = .ok (.iload_n 1, 1) := by decide +kernel
theorem dX11_lots_52 : decode cX11_lots 52 = .ok (.if_icmp .ge 107, 3) := by decide +kernel
theorem dX11_lots_55 : decode cX11_lots 55 = .ok (.aload_n 0, 1) := by decide +kernel
theorem dX11_lots_56 : decode cX11_lots 56 = .ok (.aload_n 0, 1) := by decide +kernel
theorem dX11_lots_57 : decode cX11_lots 57 = .ok (.bipush 10, 2) := by decide +kernel
theorem dX11_lots_59 : decode cX11_lots 59 = .ok (.invokevirtual 310, 3) := by decide +kernel
theorem dX11_lots_62 : decode cX11_lots 62 = .ok (.putfield 22, 3) := by decide +kernel
theorem dX11_lots_65 : decode cX11_lots 65 = .ok (.iconst 0, 1) := by decide +kernel
theorem dX11_lots_66 : decode cX11_lots 66 = .ok (.istore 8, 2) := by decide +kernel
theorem dX11_lots_68 : decode cX11_lots 68 = .ok (.iload 8, 2) := by decide +kernel
theorem dX11_lots_70 : decode cX11_lots 70 = .ok (.aload_n 0, 1) := by decide +kernel
theorem dX11_lots_71 : decode cX11_lots 71 = .ok (.getfield 86, 3) := by decide +kernel
theorem dX11_lots_74 : decode cX11_lots 74 = .ok (.if_icmp .ge 22, 3) := by decide +kernel
theorem dX11_lots_77 : decode cX11_lots 77 = .ok (.aload_n 0, 1) := by decide +kernel
theorem dX11_lots_78 : decode cX11_lots 78 = .ok (.getfield 16, 3) := by decide +kernel
theorem dX11_lots_81 : decode cX11_lots 81 = .ok (.iload 8, 2) := by decide +kernel
theorem dX11_lots_83 : decode cX11_lots 83 = .ok (.aload_n 0, 1) := by decide +kernel
theorem dX11_lots_84 : decode cX11_lots 84 = .ok (.bipush 10, 2) := by decide +kernel
theorem dX11_lots_86 : decode cX11_lots 86 = .ok (.invokevirtual 310, 3) := by decide +kernel
theorem dX11_lots_89 : decode cX11_lots 89 = .ok (.iastore, 1) := by decide +kernel
theorem dX11_lots_90 : decode cX11_lots 90 = .ok (.iinc 8 1, 3) := by decide +kernel
theorem dX11_lots_93 : decode cX11_lots 93 = .ok (.goto (-25), 3) := by decide +kernel
theorem dX11_lots_96 : decode cX11_lots 96 = .ok (.aload_n 0, 1) := by decide +kernel
theorem dX11_lots_97 : decode cX11_lots 97 = .ok (.bipush 50, 2) := by decide +kernel
theorem dX11_lots_99 : decode cX11_lots 99 = .ok (.invokevirtual 185, 3) := by decide +kernel
theorem dX11_lots_102 : decode cX11_lots 102 = .ok (.iload 5, 2) := by decide +kernel
theorem dX11_lots_104 : decode cX11_lots 104 = .ok (.aload_n 0, 1) := by decide +kernel
theorem dX11_lots_105 : decode cX11_lots 105 = .ok (.invokevirtual 235, 3) := by decide +kernel
theorem dX11_lots_108 : decode cX11_lots 108 = .ok (.iadd, 1) := by decide +kernel
theorem dX11_lots_109 : decode cX11_lots 109 = .ok (.istore 5, 2) := by decide +kernel
theorem dX11_lots_111 : decode cX11_lots 111 = .ok (.iconst 0, 1) := by decide +kernel
theorem dX11_lots_112 : decode cX11_lots 112 = .ok (.istore 8, 2) := by decide +kernel
theorem dX11_lots_114 : decode cX11_lots 114 = .ok (.iload 8, 2) := by decide +kernel
theorem dX11_lots_116 : decode cX11_lots 116 = .ok (.aload_n 0, 1) := by decide +kernel
theorem dX11_lots_117 : decode cX11_lots 117 = .ok (.getfield 86, 3) := by decide +kernel
theorem dX11_lots_120 : decode cX11_lots 120 = .ok (.if_icmp .ge 29, 3) := by decide +kernel
theorem dX11_lots_123 : decode cX11_lots 123 = .ok (.iload 6, 2) := by decide +kernel
theorem dX11_lots_125 : decode cX11_lots 125 = .ok (.aload_n 0, 1) := by decide +kernel
theorem dX11_lots_126 : decode cX11_lots 126 = .ok (.getfield 13, 3) := by decide +kernel
theorem dX11_lots_129 : decode cX11_lots 129 = .ok (.iload 8, 2) := by decide +kernel
theorem dX11_lots_131 : decode cX11_lots 131 = .ok (.iaload, 1) := by decide +kernel
theorem dX11_lots_132 : decode cX11_lots 132 = .ok (.ifCond .ne 7, 3) := by decide +kernel
theorem dX11_lots_135 : decode cX11_lots 135 = .ok (.iconst 1, 1) := by decide +kernel
theorem dX11_lots_136 : decode cX11_lots 136 = .ok (.goto 4, 3) := by decide +kernel
theorem dX11_lots_139 : decode cX11_lots 139 = .ok (.iconst 0, 1) := by decide +kernel
theorem dX11_lots_140 : decode cX11_lots 140 = .ok (.iadd, 1) := by decide +kernel
theorem dX11_lots_141 : decode cX11_lots 141 = .ok (.istore 6, 2) := by decide +kernel
theorem dX11_lots_143 : decode cX11_lots 143 = .ok (.iinc 8 1, 3) := by decide +kernel
theorem dX11_lots_146 : decode cX11_lots 146 = .ok (.goto (-32), 3) := by decide +kernel
theorem dX11_lots_149 : decode cX11_lots 149 = .ok (.aload_n 0, 1) := by decide +kernel
theorem dX11_lots_150 : decode cX11_lots 150 = .ok (.invokevirtual 200, 3) := by decide +kernel
theorem dX11_lots_153 : decode cX11_lots 153 = .ok (.iinc 7 1, 3) := by decide +kernel
theorem dX11_lots_156 : decode cX11_lots 156 = .ok (.goto (-107), 3) := by decide +kernel
theorem dX11_lots_159 : decode cX11_lots 159 = .ok (.iload_n 3, 1) := by decide +kernel
theorem dX11_lots_160 : decode cX11_lots 160 = .ok (.ifCond .ne 8, 3) := by decide +kernel
theorem dX11_lots_163 : decode cX11_lots 163 = .ok (.iload 5, 2) := by decide +kernel
theorem dX11_lots_165 : decode cX11_lots 165 = .ok (.goto 5, 3) := by decide +kernel
theorem dX11_lots_168 : decode cX11_lots 168 = .ok (.iload 6, 2) := by decide +kernel
theorem dX11_lots_170 : decode cX11_lots 170 = .ok (.ireturn, 1) := by decide +kernel
theorem dX11_count_0 : decode cX11_count 0 = .ok (.aload_n 0, 1) := by decide +kernel
theorem dX11_count_1 : decode cX11_count 1 = .ok (.iconst 0, 1) := by decide +kernel
theorem dX11_count_2 : decode cX11_count 2 = .ok (.putfield 83, 3) := by decide +kernel
theorem dX11_count_5 : decode cX11_count 5 = .ok (.iload_n 1, 1) := by decide +kernel
theorem dX11_count_6 : decode cX11_count 6 = .ok (.tableswitch 104 0 9 #[54, 59, 64, 69, 74, 79, 84, 89, 94, 99], 54) := by decide +kernel
theorem dX11_count_60 : decode cX11_count 60 = .ok (.aload_n 0, 1) := by decide +kernel
theorem dX11_count_61 : decode cX11_count 61 = .ok (.getfield 86, 3) := by decide +kernel
theorem dX11_count_64 : decode cX11_count 64 = .ok (.ireturn, 1) := by decide +kernel
theorem dX11_count_65 : decode cX11_count 65 = .ok (.aload_n 0, 1) := by decide +kernel
theorem dX11_count_66 : decode cX11_count 66 = .ok (.getfield 93, 3) := by decide +kernel
theorem dX11_count_69 : decode cX11_count 69 = .ok (.ireturn, 1) := by decide +kernel
theorem dX11_count_70 : decode cX11_count 70 = .ok (.aload_n 0, 1) := by decide +kernel
theorem dX11_count_71 : decode cX11_count 71 = .ok (.getfield 122, 3) := by decide +kernel
theorem dX11_count_74 : decode cX11_count 74 = .ok (.ireturn, 1) := by decide +kernel
theorem dX11_count_75 : decode cX11_count 75 = .ok (.aload_n 0, 1) := by decide +kernel
theorem dX11_count_76 : decode cX11_count 76 = .ok (.getfield 22, 3) := by decide +kernel
theorem dX11_count_79 : decode cX11_count 79 = .ok (.ireturn, 1) := by decide +kernel
theorem dX11_count_80 : decode cX11_count 80 = .ok (.aload_n 0, 1) := by decide +kernel
theorem dX11_count_81 : decode cX11_count 81 = .ok (.invokevirtual 292, 3) := by decide +kernel
theorem dX11_count_84 : decode cX11_count 84 = .ok (.ireturn, 1) := by decide +kernel
theorem dX11_count_85 : decode cX11_count 85 = .ok (.aload_n 0, 1) := by decide +kernel
theorem dX11_count_86 : decode cX11_count 86 = .ok (.invokevirtual 235, 3) := by decide +kernel
theorem dX11_count_89 : decode cX11_count 89 = .ok (.ireturn, 1) := by decide +kernel
theorem dX11_count_90 : decode cX11_count 90 = .ok (.aload_n 0, 1) := by decide +kernel
theorem dX11_count_91 : decode cX11_count 91 = .ok (.invokevirtual 262, 3) := by decide +kernel
theorem dX11_count_94 : decode cX11_count 94 = .ok (.ireturn, 1) := by decide +kernel
theorem dX11_count_95 : decode cX11_count 95 = .ok (.aload_n 0, 1) := by decide +kernel
theorem dX11_count_96 : decode cX11_count 96 = .ok (.getfield 137, 3) := by decide +kernel
theorem dX11_count_99 : decode cX11_count 99 = .ok (.ireturn, 1) := by decide +kernel
theorem dX11_count_100 : decode cX11_count 100 = .ok (.aload_n 0, 1) := by decide +kernel
theorem dX11_count_101 : decode cX11_count 101 = .ok (.getfield 295, 3) := by decide +kernel
theorem dX11_count_104 : decode cX11_count 104 = .ok (.ireturn, 1) := by decide +kernel
theorem dX11_count_105 : decode cX11_count 105 = .ok (.aload_n 0, 1) := by decide +kernel
theorem dX11_count_106 : decode cX11_count 106 = .ok (.getfield 203, 3) := by decide +kernel
theorem dX11_count_109 : decode cX11_count 109 = .ok (.ireturn, 1) := by decide +kernel
theorem dX11_count_110 : decode cX11_count 110 = .ok (.iload_n 1, 1) := by decide +kernel
theorem dX11_count_111 : decode cX11_count 111 = .ok (.i2l, 1) := by decide +kernel
theorem dX11_count_112 : decode cX11_count 112 = .ok (.ldc2_w 313, 3) := by decide +kernel
theorem dX11_count_115 : decode cX11_count 115 = .ok (.ldc2_w 315, 3) := by decide +kernel
theorem dX11_count_118 : decode cX11_count 118 = .ok (.invokestatic 89, 3) := by decide +kernel
theorem dX11_count_121 : decode cX11_count 121 = .ok (.ifCond .eq 15, 3) := by decide +kernel
theorem dX11_count_124 : decode cX11_count 124 = .ok (.aload_n 0, 1) := by decide +kernel
theorem dX11_count_125 : decode cX11_count 125 = .ok (.getfield 38, 3) := by decide +kernel
theorem dX11_count_128 : decode cX11_count 128 = .ok (.iload_n 1, 1) := by decide +kernel
theorem dX11_count_129 : decode cX11_count 129 = .ok (.bipush 10, 2) := by decide +kernel
theorem dX11_count_131 : decode cX11_count 131 = .ok (.isub, 1) := by decide +kernel
theorem dX11_count_132 : decode cX11_count 132 = .ok (.iaload, 1) := by decide +kernel
theorem dX11_count_133 : decode cX11_count 133 = .ok (.goto 5, 3) := by decide +kernel
theorem dX11_count_136 : decode cX11_count 136 = .ok (.bipush (-9), 2) := by decide +kernel
theorem dX11_count_138 : decode cX11_count 138 = .ok (.ireturn, 1) := by decide +kernel
theorem dJ9_max_7cf53_0 : decode cJ9_max_7cf53 0 = .ok (.iload_n 0, 1) := by decide +kernel
theorem dJ9_max_7cf53_1 : decode cJ9_max_7cf53 1 = .ok (.iload_n 1, 1) := by decide +kernel
theorem dJ9_max_7cf53_2 : decode cJ9_max_7cf53 2 = .ok (.if_icmp .lt 7, 3) := by decide +kernel
theorem dJ9_max_7cf53_5 : decode cJ9_max_7cf53 5 = .ok (.iload_n 0, 1) := by decide +kernel
theorem dJ9_max_7cf53_6 : decode cJ9_max_7cf53 6 = .ok (.goto 4, 3) := by decide +kernel
theorem dJ9_max_7cf53_9 : decode cJ9_max_7cf53 9 = .ok (.iload_n 1, 1) := by decide +kernel
theorem dJ9_max_7cf53_10 : decode cJ9_max_7cf53 10 = .ok (.ireturn, 1) := by decide +kernel
theorem dJ9_min_7cf53_0 : decode cJ9_min_7cf53 0 = .ok (.iload_n 0, 1) := by decide +kernel
theorem dJ9_min_7cf53_1 : decode cJ9_min_7cf53 1 = .ok (.iload_n 1, 1) := by decide +kernel
theorem dJ9_min_7cf53_2 : decode cJ9_min_7cf53 2 = .ok (.if_icmp .gt 7, 3) := by decide +kernel
theorem dJ9_min_7cf53_5 : decode cJ9_min_7cf53 5 = .ok (.iload_n 0, 1) := by decide +kernel
theorem dJ9_min_7cf53_6 : decode cJ9_min_7cf53 6 = .ok (.goto 4, 3) := by decide +kernel
theorem dJ9_min_7cf53_9 : decode cJ9_min_7cf53 9 = .ok (.iload_n 1, 1) := by decide +kernel
theorem dJ9_min_7cf53_10 : decode cJ9_min_7cf53 10 = .ok (.ireturn, 1) := by decide +kernel
theorem dL_law_0 : decode cL_law 0 = .ok (.new 7, 3) := by decide +kernel
theorem dL_law_3 : decode cL_law 3 = .ok (.dup, 1) := by decide +kernel
theorem dL_law_4 : decode cL_law 4 = .ok (.invokespecial 9, 3) := by decide +kernel
theorem dL_law_7 : decode cL_law 7 = .ok (.astore_n 1, 1) := by decide +kernel
theorem dL_law_8 : decode cL_law 8 = .ok (.new 10, 3) := by decide +kernel
theorem dL_law_11 : decode cL_law 11 = .ok (.dup, 1) := by decide +kernel
theorem dL_law_12 : decode cL_law 12 = .ok (.invokespecial 12, 3) := by decide +kernel
theorem dL_law_15 : decode cL_law 15 = .ok (.astore_n 2, 1) := by decide +kernel
theorem dL_law_16 : decode cL_law 16 = .ok (.iconst 0, 1) := by decide +kernel
theorem dL_law_17 : decode cL_law 17 = .ok (.istore_n 3, 1) := by decide +kernel
theorem dL_law_18 : decode cL_law 18 = .ok (.iload_n 3, 1) := by decide +kernel
theorem dL_law_19 : decode cL_law 19 = .ok (.aload_n 0, 1) := by decide +kernel
theorem dL_law_20 : decode cL_law 20 = .ok (.arraylength, 1) := by decide +kernel
theorem dL_law_21 : decode cL_law 21 = .ok (.bipush 6, 2) := by decide +kernel
theorem dL_law_23 : decode cL_law 23 = .ok (.isub, 1) := by decide +kernel
theorem dL_law_24 : decode cL_law 24 = .ok (.if_icmp .gt 1655, 3) := by decide +kernel
theorem dL_law_27 : decode cL_law 27 = .ok (.aload_n 0, 1) := by decide +kernel
theorem dL_law_28 : decode cL_law 28 = .ok (.iload_n 3, 1) := by decide +kernel
theorem dL_law_29 : decode cL_law 29 = .ok (.iaload, 1) := by decide +kernel
theorem dL_law_30 : decode cL_law 30 = .ok (.bipush 63, 2) := by decide +kernel
theorem dL_law_32 : decode cL_law 32 = .ok (.iand, 1) := by decide +kernel
theorem dL_law_33 : decode cL_law 33 = .ok (.tableswitch 1640 0 48 #[211, 234, 247, 280, 313, 356, 399, 422, 445, 478, 501, 514, 557, 580, 603, 626, 669, 712, 735, 768, 811, 854, 877, 911, 944, 987, 1020, 1043, 1107, 1130, 1153, 1176, 1199, 1242, 1275, 1298, 1331, 1364, 1397, 1430, 1453, 1476, 1489, 1512, 1535, 1548, 1591, 1604, 1617], 211) := by decide +kernel
theorem dL_law_244 : decode cL_law 244 = .ok (.aload_n 1, 1) := by decide +kernel
theorem dL_law_245 : decode cL_law 245 = .ok (.aload_n 0, 1) := by decide +kernel
theorem dL_law_246 : decode cL_law 246 = .ok (.iload_n 3, 1) := by decide +kernel
theorem dL_law_247 : decode cL_law 247 = .ok (.iconst 1, 1) := by decide +kernel
theorem dL_law_248 : decode cL_law 248 = .ok (.iadd, 1) := by decide +kernel
theorem dL_law_249 : decode cL_law 249 = .ok (.iaload, 1) := by decide +kernel
theorem dL_law_250 : decode cL_law 250 = .ok (.invokevirtual 13, 3) := by decide +kernel
theorem dL_law_253 : decode cL_law 253 = .ok (.aload_n 2, 1) := by decide +kernel
theorem dL_law_254 : decode cL_law 254 = .ok (.aload_n 0, 1) := by decide +kernel
theorem dL_law_255 : decode cL_law 255 = .ok (.iload_n 3, 1) := by decide +kernel
theorem dL_law_256 : decode cL_law 256 = .ok (.iconst 1, 1) := by decide +kernel
theorem dL_law_257 : decode cL_law 257 = .ok (.iadd, 1) := by decide +kernel
theorem dL_law_258 : decode cL_law 258 = .ok (.iaload, 1) := by decide +kernel
theorem dL_law_259 : decode cL_law 259 = .ok (.invokevirtual 17, 3) := by decide +kernel
theorem dL_law_262 : decode cL_law 262 = .ok (.if_icmp .eq 1411, 3) := by decide +kernel
theorem dL_law_265 : decode cL_law 265 = .ok (.iconst 0, 1) := by decide +kernel
theorem dL_law_266 : decode cL_law 266 = .ok (.ireturn, 1) := by decide +kernel
theorem dL_law_267 : decode cL_law 267 = .ok (.aload_n 1, 1) := by decide +kernel
theorem dL_law_268 : decode cL_law 268 = .ok (.invokevirtual 18, 3) := by decide +kernel
theorem dL_law_271 : decode cL_law 271 = .ok (.aload_n 2, 1) := by decide +kernel
theorem dL_law_272 : decode cL_law 272 = .ok (.invokevirtual 22, 3) := by decide +kernel
theorem dL_law_275 : decode cL_law 275 = .ok (.if_icmp .eq 1398, 3) := by decide +kernel
theorem dL_law_278 : decode cL_law 278 = .ok (.iconst 0, 1) := by decide +kernel
theorem dL_law_279 : decode cL_law 279 = .ok (.ireturn, 1) := by decide +kernel
theorem dL_law_280 : decode cL_law 280 = .ok (.aload_n 1, 1) := by decide +kernel
theorem dL_law_281 : decode cL_law 281 = .ok (.aload_n 0, 1) := by decide +kernel
theorem dL_law_282 : decode cL_law 282 = .ok (.iload_n 3, 1) := by decide +kernel
theorem dL_law_283 : decode cL_law 283 = .ok (.iconst 1, 1) := by decide +kernel
theorem dL_law_284 : decode cL_law 284 = .ok (.iadd, 1) := by decide +kernel
theorem dL_law_285 : decode cL_law 285 = .ok (.iaload, 1) := by decide +kernel
theorem dL_law_286 : decode cL_law 286 = .ok (.aload_n 0, 1) := by decide +kernel
theorem dL_law_287 : decode cL_law 287 = .ok (.iload_n 3, 1) := by decide +kernel
theorem dL_law_288 : decode cL_law 288 = .ok (.iconst 2, 1) := by decide +kernel
theorem dL_law_289 : decode cL_law 289 = .ok (.iadd, 1) := by decide +kernel
theorem dL_law_290 : decode cL_law 290 = .ok (.iaload, 1) := by decide +kernel
theorem dL_law_291 : decode cL_law 291 = .ok (.invokevirtual 23, 3) := by decide +kernel
theorem dL_law_294 : decode cL_law 294 = .ok (.aload_n 2, 1) := by decide +kernel
theorem dL_law_295 : decode cL_law 295 = .ok (.aload_n 0, 1) := by decide +kernel
theorem dL_law_296 : decode cL_law 296 = .ok (.iload_n 3, 1) := by decide +kernel
theorem dL_law_297 : decode cL_law 297 = .ok (.iconst 1, 1) := by decide +kernel
theorem dL_law_298 : decode cL_law 298 = .ok (.iadd, 1) := by decide +kernel
theorem dL_law_299 : decode cL_law 299 = .ok (.iaload, 1) := by decide +kernel
theorem dL_law_300 : decode cL_law 300 = .ok (.aload_n 0, 1) := by decide +kernel
theorem dL_law_301 : decode cL_law 301 = .ok (.iload_n 3, 1) := by decide +kernel
theorem dL_law_302 : decode cL_law 302 = .ok (.iconst 2, 1) := by decide +kernel
theorem dL_law_303 : decode cL_law 303 = .ok (.iadd, 1) := by decide +kernel
theorem dL_law_304 : decode cL_law 304 = .ok (.iaload, 1) := by decide +kernel
theorem dL_law_305 : decode cL_law 305 = .ok (.invokevirtual 27, 3) := by decide +kernel
theorem dL_law_308 : decode cL_law 308 = .ok (.if_icmp .eq 1365, 3) := by decide +kernel
theorem dL_law_311 : decode cL_law 311 = .ok (.iconst 0, 1) := by decide +kernel
theorem dL_law_312 : decode cL_law 312 = .ok (.ireturn, 1) := by decide +kernel
theorem dL_law_313 : decode cL_law 313 = .ok (.aload_n 1, 1) := by decide +kernel
theorem dL_law_314 : decode cL_law 314 = .ok (.aload_n 0, 1) := by decide +kernel
theorem dL_law_315 : decode cL_law 315 = .ok (.iload_n 3, 1) := by decide +kernel
theorem dL_law_316 : decode cL_law 316 = .ok (.iconst 1, 1) := by decide +kernel
theorem dL_law_317 : decode cL_law 317 = .ok (.iadd, 1) := by decide +kernel
theorem dL_law_318 : decode cL_law 318 = .ok (.iaload, 1) := by decide +kernel
theorem dL_law_319 : decode cL_law 319 = .ok (.aload_n 0, 1) := by decide +kernel
theorem dL_law_320 : decode cL_law 320 = .ok (.iload_n 3, 1) := by decide +kernel
theorem dL_law_321 : decode cL_law 321 = .ok (.iconst 2, 1) := by decide +kernel
theorem dL_law_322 : decode cL_law 322 = .ok (.iadd, 1) := by decide +kernel
theorem dL_law_323 : decode cL_law 323 = .ok (.iaload, 1) := by decide +kernel
theorem dL_law_324 : decode cL_law 324 = .ok (.invokevirtual 28, 3) := by decide +kernel
theorem dL_law_327 : decode cL_law 327 = .ok (.aload_n 2, 1) := by decide +kernel
theorem dL_law_328 : decode cL_law 328 = .ok (.aload_n 0, 1) := by decide +kernel
theorem dL_law_329 : decode cL_law 329 = .ok (.iload_n 3, 1) := by decide +kernel
theorem dL_law_330 : decode cL_law 330 = .ok (.iconst 1, 1) := by decide +kernel
theorem dL_law_331 : decode cL_law 331 = .ok (.iadd, 1) := by decide +kernel
theorem dL_law_332 : decode cL_law 332 = .ok (.iaload, 1) := by decide +kernel
theorem dL_law_333 : decode cL_law 333 = .ok (.aload_n 0, 1) := by decide +kernel
theorem dL_law_334 : decode cL_law 334 = .ok (.iload_n 3, 1) := by decide +kernel
theorem dL_law_335 : decode cL_law 335 = .ok (.iconst 2, 1) := by decide +kernel
theorem dL_law_336 : decode cL_law 336 = .ok (.iadd, 1) := by decide +kernel
theorem dL_law_337 : decode cL_law 337 = .ok (.iaload, 1) := by decide +kernel
theorem dL_law_338 : decode cL_law 338 = .ok (.invokevirtual 31, 3) := by decide +kernel
theorem dL_law_341 : decode cL_law 341 = .ok (.if_icmp .eq 1332, 3) := by decide +kernel
theorem dL_law_344 : decode cL_law 344 = .ok (.iconst 0, 1) := by decide +kernel
theorem dL_law_345 : decode cL_law 345 = .ok (.ireturn, 1) := by decide +kernel
theorem dL_law_346 : decode cL_law 346 = .ok (.aload_n 1, 1) := by decide +kernel
theorem dL_law_347 : decode cL_law 347 = .ok (.aload_n 0, 1) := by decide +kernel
theorem dL_law_348 : decode cL_law 348 = .ok (.iload_n 3, 1) := by decide +kernel
theorem dL_law_349 : decode cL_law 349 = .ok (.iconst 1, 1) := by decide +kernel
theorem dL_law_350 : decode cL_law 350 = .ok (.iadd, 1) := by decide +kernel
theorem dL_law_351 : decode cL_law 351 = .ok (.iaload, 1) := by decide +kernel
theorem dL_law_352 : decode cL_law 352 = .ok (.aload_n 0, 1) := by decide +kernel
theorem dL_law_353 : decode cL_law 353 = .ok (.iload_n 3, 1) := by decide +kernel
theorem dL_law_354 : decode cL_law 354 = .ok (.iconst 2, 1) := by decide +kernel
theorem dL_law_355 : decode cL_law 355 = .ok (.iadd, 1) := by decide +kernel
theorem dL_law_356 : decode cL_law 356 = .ok (.iaload, 1) := by decide +kernel
theorem dL_law_357 : decode cL_law 357 = .ok (.aload_n 0, 1) := by decide +kernel
theorem dL_law_358 : decode cL_law 358 = .ok (.iload_n 3, 1) := by decide +kernel
theorem dL_law_359 : decode cL_law 359 = .ok (.iconst 3, 1) := by decide +kernel
theorem dL_law_360 : decode cL_law 360 = .ok (.iadd, 1) := by decide +kernel
theorem dL_law_361 : decode cL_law 361 = .ok (.iaload, 1) := by decide +kernel
theorem dL_law_362 : decode cL_law 362 = .ok (.invokevirtual 32, 3) := by decide +kernel
theorem dL_law_365 : decode cL_law 365 = .ok (.aload_n 2, 1) := by decide +kernel
theorem dL_law_366 : decode cL_law 366 = .ok (.aload_n 0, 1) := by decide +kernel
theorem dL_law_367 : decode cL_law 367 = .ok (.iload_n 3, 1) := by decide +kernel
theorem dL_law_368 : decode cL_law 368 = .ok (.iconst 1, 1) := by decide +kernel
theorem dL_law_369 : decode cL_law 369 = .ok (.iadd, 1) := by decide +kernel
theorem dL_law_370 : decode cL_law 370 = .ok (.iaload, 1) := by decide +kernel
theorem dL_law_371 : decode cL_law 371 = .ok (.aload_n 0, 1) := by decide +kernel
theorem dL_law_372 : decode cL_law 372 = .ok (.iload_n 3, 1) := by decide +kernel
theorem dL_law_373 : decode cL_law 373 = .ok (.iconst 2, 1) := by decide +kernel
theorem dL_law_374 : decode cL_law 374 = .ok (.iadd, 1) := by decide +kernel
theorem dL_law_375 : decode cL_law 375 = .ok (.iaload, 1) := by decide +kernel
theorem dL_law_376 : decode cL_law 376 = .ok (.aload_n 0, 1) := by decide +kernel
theorem dL_law_377 : decode cL_law 377 = .ok (.iload_n 3, 1) := by decide +kernel
theorem dL_law_378 : decode cL_law 378 = .ok (.iconst 3, 1) := by decide +kernel
theorem dL_law_379 : decode cL_law 379 = .ok (.iadd, 1) := by decide +kernel
theorem dL_law_380 : decode cL_law 380 = .ok (.iaload, 1) := by decide +kernel
theorem dL_law_381 : decode cL_law 381 = .ok (.invokevirtual 36, 3) := by decide +kernel
theorem dL_law_384 : decode cL_law 384 = .ok (.if_icmp .eq 1289, 3) := by decide +kernel
theorem dL_law_387 : decode cL_law 387 = .ok (.iconst 0, 1) := by decide +kernel
theorem dL_law_388 : decode cL_law 388 = .ok (.ireturn, 1) := by decide +kernel
theorem dL_law_389 : decode cL_law 389 = .ok (.aload_n 1, 1) := by decide +kernel
theorem dL_law_390 : decode cL_law 390 = .ok (.aload_n 0, 1) := by decide +kernel
theorem dL_law_391 : decode cL_law 391 = .ok (.iload_n 3, 1) := by decide +kernel
theorem dL_law_392 : decode cL_law 392 = .ok (.iconst 1, 1) := by decide +kernel
theorem dL_law_393 : decode cL_law 393 = .ok (.iadd, 1) := by decide +kernel
theorem dL_law_394 : decode cL_law 394 = .ok (.iaload, 1) := by decide +kernel
theorem dL_law_395 : decode cL_law 395 = .ok (.aload_n 0, 1) := by decide +kernel
theorem dL_law_396 : decode cL_law 396 = .ok (.iload_n 3, 1) := by decide +kernel
theorem dL_law_397 : decode cL_law 397 = .ok (.iconst 2, 1) := by decide +kernel
theorem dL_law_398 : decode cL_law 398 = .ok (.iadd, 1) := by decide +kernel
theorem dL_law_399 : decode cL_law 399 = .ok (.iaload, 1) := by decide +kernel
theorem dL_law_400 : decode cL_law 400 = .ok (.aload_n 0, 1) := by decide +kernel
theorem dL_law_401 : decode cL_law 401 = .ok (.iload_n 3, 1) := by decide +kernel
theorem dL_law_402 : decode cL_law 402 = .ok (.iconst 3, 1) := by decide +kernel
theorem dL_law_403 : decode cL_law 403 = .ok (.iadd, 1) := by decide +kernel
theorem dL_law_404 : decode cL_law 404 = .ok (.iaload, 1) := by decide +kernel
theorem dL_law_405 : decode cL_law 405 = .ok (.invokevirtual 37, 3) := by decide +kernel
theorem dL_law_408 : decode cL_law 408 = .ok (.aload_n 2, 1) := by decide +kernel
theorem dL_law_409 : decode cL_law 409 = .ok (.aload_n 0, 1) := by decide +kernel
theorem dL_law_410 : decode cL_law 410 = .ok (.iload_n 3, 1) := by decide +kernel
theorem dL_law_411 : decode cL_law 411 = .ok (.iconst 1, 1) := by decide +kernel
theorem dL_law_412 : decode cL_law 412 = .ok (.iadd, 1) := by decide +kernel
theorem dL_law_413 : decode cL_law 413 = .ok (.iaload, 1) := by decide +kernel
theorem dL_law_414 : decode cL_law 414 = .ok (.aload_n 0, 1) := by decide +kernel
theorem dL_law_415 : decode cL_law 415 = .ok (.iload_n 3, 1) := by decide +kernel
theorem dL_law_416 : decode cL_law 416 = .ok (.iconst 2, 1) := by decide +kernel
theorem dL_law_417 : decode cL_law 417 = .ok (.iadd, 1) := by decide +kernel
theorem dL_law_418 : decode cL_law 418 = .ok (.iaload, 1) := by decide +kernel
theorem dL_law_419 : decode cL_law 419 = .ok (.aload_n 0, 1) := by decide +kernel
theorem dL_law_420 : decode cL_law 420 = .ok (.iload_n 3, 1) := by decide +kernel
theorem dL_law_421 : decode cL_law 421 = .ok (.iconst 3, 1) := by decide +kernel
theorem dL_law_422 : decode cL_law 422 = .ok (.iadd, 1) := by decide +kernel
theorem dL_law_423 : decode cL_law 423 = .ok (.iaload, 1) := by decide +kernel
theorem dL_law_424 : decode cL_law 424 = .ok (.invokevirtual 40, 3) := by decide +kernel
theorem dL_law_427 : decode cL_law 427 = .ok (.if_icmp .eq 1246, 3) := by decide +kernel
theorem dL_law_430 : decode cL_law 430 = .ok (.iconst 0, 1) := by decide +kernel
theorem dL_law_431 : decode cL_law 431 = .ok (.ireturn, 1) := by decide +kernel
theorem dL_law_432 : decode cL_law 432 = .ok (.aload_n 1, 1) := by decide +kernel
theorem dL_law_433 : decode cL_law 433 = .ok (.aload_n 0, 1) := by decide +kernel
theorem dL_law_434 : decode cL_law 434 = .ok (.iload_n 3, 1) := by decide +kernel
theorem dL_law_435 : decode cL_law 435 = .ok (.iconst 1, 1) := by decide +kernel
theorem dL_law_436 : decode cL_law 436 = .ok (.iadd, 1) := by decide +kernel
theorem dL_law_437 : decode cL_law 437 = .ok (.iaload, 1) := by decide +kernel
theorem dL_law_438 : decode cL_law 438 = .ok (.invokevirtual 41, 3) := by decide +kernel
theorem dL_law_441 : decode cL_law 441 = .ok (.aload_n 2, 1) := by decide +kernel
theorem dL_law_442 : decode cL_law 442 = .ok (.aload_n 0, 1) := by decide +kernel
theorem dL_law_443 : decode cL_law 443 = .ok (.iload_n 3, 1) := by decide +kernel
theorem dL_law_444 : decode cL_law 444 = .ok (.iconst 1, 1) := by decide +kernel
theorem dL_law_445 : decode cL_law 445 = .ok (.iadd, 1) := by decide +kernel
theorem dL_law_446 : decode cL_law 446 = .ok (.iaload, 1) := by decide +kernel
theorem dL_law_447 : decode cL_law 447 = .ok (.invokevirtual 44, 3) := by decide +kernel
theorem dL_law_450 : decode cL_law 450 = .ok (.if_icmp .eq 1223, 3) := by decide +kernel
theorem dL_law_453 : decode cL_law 453 = .ok (.iconst 0, 1) := by decide +kernel
theorem dL_law_454 : decode cL_law 454 = .ok (.ireturn, 1) := by decide +kernel
theorem dL_law_455 : decode cL_law 455 = .ok (.aload_n 1, 1) := by decide +kernel
theorem dL_law_456 : decode cL_law 456 = .ok (.aload_n 0, 1) := by decide +kernel
theorem dL_law_457 : decode cL_law 457 = .ok (.iload_n 3, 1) := by decide +kernel
theorem dL_law_458 : decode cL_law 458 = .ok (.iconst 1, 1) := by decide +kernel
theorem dL_law_459 : decode cL_law 459 = .ok (.iadd, 1) := by decide +kernel
theorem dL_law_460 : decode cL_law 460 = .ok (.iaload, 1) := by decide +kernel
theorem dL_law_461 : decode cL_law 461 = .ok (.invokevirtual 45, 3) := by decide +kernel
theorem dL_law_464 : decode cL_law 464 = .ok (.aload_n 2, 1) := by decide +kernel
theorem dL_law_465 : decode cL_law 465 = .ok (.aload_n 0, 1) := by decide +kernel
theorem dL_law_466 : decode cL_law 466 = .ok (.iload_n 3, 1) := by decide +kernel
theorem dL_law_467 : decode cL_law 467 = .ok (.iconst 1, 1) := by decide +kernel
theorem dL_law_468 : decode cL_law 468 = .ok (.iadd, 1) := by decide +kernel
theorem dL_law_469 : decode cL_law 469 = .ok (.iaload, 1) := by decide +kernel
theorem dL_law_470 : decode cL_law 470 = .ok (.invokevirtual 48, 3) := by decide +kernel
theorem dL_law_473 : decode cL_law 473 = .ok (.if_icmp .eq 1200, 3) := by decide +kernel
theorem dL_law_476 : decode cL_law 476 = .ok (.iconst 0, 1) := by decide +kernel
theorem dL_law_477 : decode cL_law 477 = .ok (.ireturn, 1) := by decide +kernel
theorem dL_law_478 : decode cL_law 478 = .ok (.aload_n 1, 1) := by decide +kernel
theorem dL_law_479 : decode cL_law 479 = .ok (.aload_n 0, 1) := by decide +kernel
theorem dL_law_480 : decode cL_law 480 = .ok (.iload_n 3, 1) := by decide +kernel
theorem dL_law_481 : decode cL_law 481 = .ok (.iconst 1, 1) := by decide +kernel
theorem dL_law_482 : decode cL_law 482 = .ok (.iadd, 1) := by decide +kernel
theorem dL_law_483 : decode cL_law 483 = .ok (.iaload, 1) := by decide +kernel
theorem dL_law_484 : decode cL_law 484 = .ok (.aload_n 0, 1) := by decide +kernel
theorem dL_law_485 : decode cL_law 485 = .ok (.iload_n 3, 1) := by decide +kernel
theorem dL_law_486 : decode cL_law 486 = .ok (.iconst 2, 1) := by decide +kernel
theorem dL_law_487 : decode cL_law 487 = .ok (.iadd, 1) := by decide +kernel
theorem dL_law_488 : decode cL_law 488 = .ok (.iaload, 1) := by decide +kernel
theorem dL_law_489 : decode cL_law 489 = .ok (.invokevirtual 49, 3) := by decide +kernel
theorem dL_law_492 : decode cL_law 492 = .ok (.aload_n 2, 1) := by decide +kernel
theorem dL_law_493 : decode cL_law 493 = .ok (.aload_n 0, 1) := by decide +kernel
theorem dL_law_494 : decode cL_law 494 = .ok (.iload_n 3, 1) := by decide +kernel
theorem dL_law_495 : decode cL_law 495 = .ok (.iconst 1, 1) := by decide +kernel
theorem dL_law_496 : decode cL_law 496 = .ok (.iadd, 1) := by decide +kernel
theorem dL_law_497 : decode cL_law 497 = .ok (.iaload, 1) := by decide +kernel
theorem dL_law_498 : decode cL_law 498 = .ok (.aload_n 0, 1) := by decide +kernel
theorem dL_law_499 : decode cL_law 499 = .ok (.iload_n 3, 1) := by decide +kernel
theorem dL_law_500 : decode cL_law 500 = .ok (.iconst 2, 1) := by decide +kernel
theorem dL_law_501 : decode cL_law 501 = .ok (.iadd, 1) := by decide +kernel
theorem dL_law_502 : decode cL_law 502 = .ok (.iaload, 1) := by decide +kernel
theorem dL_law_503 : decode cL_law 503 = .ok (.invokevirtual 52, 3) := by decide +kernel
theorem dL_law_506 : decode cL_law 506 = .ok (.if_icmp .eq 1167, 3) := by decide +kernel
theorem dL_law_509 : decode cL_law 509 = .ok (.iconst 0, 1) := by decide +kernel
theorem dL_law_510 : decode cL_law 510 = .ok (.ireturn, 1) := by decide +kernel
theorem dL_law_511 : decode cL_law 511 = .ok (.aload_n 1, 1) := by decide +kernel
theorem dL_law_512 : decode cL_law 512 = .ok (.aload_n 0, 1) := by decide +kernel
theorem dL_law_513 : decode cL_law 513 = .ok (.iload_n 3, 1) := by decide +kernel
theorem dL_law_514 : decode cL_law 514 = .ok (.iconst 1, 1) := by decide +kernel
theorem dL_law_515 : decode cL_law 515 = .ok (.iadd, 1) := by decide +kernel
theorem dL_law_516 : decode cL_law 516 = .ok (.iaload, 1) := by decide +kernel
theorem dL_law_517 : decode cL_law 517 = .ok (.invokevirtual 53, 3) := by decide +kernel
theorem dL_law_520 : decode cL_law 520 = .ok (.aload_n 2, 1) := by decide +kernel
theorem dL_law_521 : decode cL_law 521 = .ok (.aload_n 0, 1) := by decide +kernel
theorem dL_law_522 : decode cL_law 522 = .ok (.iload_n 3, 1) := by decide +kernel
theorem dL_law_523 : decode cL_law 523 = .ok (.iconst 1, 1) := by decide +kernel
theorem dL_law_524 : decode cL_law 524 = .ok (.iadd, 1) := by decide +kernel
theorem dL_law_525 : decode cL_law 525 = .ok (.iaload, 1) := by decide +kernel
theorem dL_law_526 : decode cL_law 526 = .ok (.invokevirtual 56, 3) := by decide +kernel
theorem dL_law_529 : decode cL_law 529 = .ok (.if_icmp .eq 1144, 3) := by decide +kernel
theorem dL_law_532 : decode cL_law 532 = .ok (.iconst 0, 1) := by decide +kernel
theorem dL_law_533 : decode cL_law 533 = .ok (.ireturn, 1) := by decide +kernel
theorem dL_law_534 : decode cL_law 534 = .ok (.aload_n 1, 1) := by decide +kernel
theorem dL_law_535 : decode cL_law 535 = .ok (.invokevirtual 57, 3) := by decide +kernel
theorem dL_law_538 : decode cL_law 538 = .ok (.aload_n 2, 1) := by decide +kernel
theorem dL_law_539 : decode cL_law 539 = .ok (.invokevirtual 60, 3) := by decide +kernel
theorem dL_law_542 : decode cL_law 542 = .ok (.if_icmp .eq 1131, 3) := by decide +kernel
theorem dL_law_545 : decode cL_law 545 = .ok (.iconst 0, 1) := by decide +kernel
theorem dL_law_546 : decode cL_law 546 = .ok (.ireturn, 1) := by decide +kernel
theorem dL_law_547 : decode cL_law 547 = .ok (.aload_n 1, 1) := by decide +kernel
theorem dL_law_548 : decode cL_law 548 = .ok (.aload_n 0, 1) := by decide +kernel
theorem dL_law_549 : decode cL_law 549 = .ok (.iload_n 3, 1) := by decide +kernel
theorem dL_law_550 : decode cL_law 550 = .ok (.iconst 1, 1) := by decide +kernel
theorem dL_law_551 : decode cL_law 551 = .ok (.iadd, 1) := by decide +kernel
theorem dL_law_552 : decode cL_law 552 = .ok (.iaload, 1) := by decide +kernel
theorem dL_law_553 : decode cL_law 553 = .ok (.aload_n 0, 1) := by decide +kernel
theorem dL_law_554 : decode cL_law 554 = .ok (.iload_n 3, 1) := by decide +kernel
theorem dL_law_555 : decode cL_law 555 = .ok (.iconst 2, 1) := by decide +kernel
theorem dL_law_556 : decode cL_law 556 = .ok (.iadd, 1) := by decide +kernel
theorem dL_law_557 : decode cL_law 557 = .ok (.iaload, 1) := by decide +kernel
theorem dL_law_558 : decode cL_law 558 = .ok (.aload_n 0, 1) := by decide +kernel
theorem dL_law_559 : decode cL_law 559 = .ok (.iload_n 3, 1) := by decide +kernel
theorem dL_law_560 : decode cL_law 560 = .ok (.iconst 3, 1) := by decide +kernel
theorem dL_law_561 : decode cL_law 561 = .ok (.iadd, 1) := by decide +kernel
theorem dL_law_562 : decode cL_law 562 = .ok (.iaload, 1) := by decide +kernel
theorem dL_law_563 : decode cL_law 563 = .ok (.invokevirtual 61, 3) := by decide +kernel
theorem dL_law_566 : decode cL_law 566 = .ok (.aload_n 2, 1) := by decide +kernel
theorem dL_law_567 : decode cL_law 567 = .ok (.aload_n 0, 1) := by decide +kernel
theorem dL_law_568 : decode cL_law 568 = .ok (.iload_n 3, 1) := by decide +kernel
theorem dL_law_569 : decode cL_law 569 = .ok (.iconst 1, 1) := by decide +kernel
theorem dL_law_570 : decode cL_law 570 = .ok (.iadd, 1) := by decide +kernel
theorem dL_law_571 : decode cL_law 571 = .ok (.iaload, 1) := by decide +kernel
theorem dL_law_572 : decode cL_law 572 = .ok (.aload_n 0, 1) := by decide +kernel
theorem dL_law_573 : decode cL_law 573 = .ok (.iload_n 3, 1) := by decide +kernel
theorem dL_law_574 : decode cL_law 574 = .ok (.iconst 2, 1) := by decide +kernel
theorem dL_law_575 : decode cL_law 575 = .ok (.iadd, 1) := by decide +kernel
theorem dL_law_576 : decode cL_law 576 = .ok (.iaload, 1) := by decide +kernel
theorem dL_law_577 : decode cL_law 577 = .ok (.aload_n 0, 1) := by decide +kernel
theorem dL_law_578 : decode cL_law 578 = .ok (.iload_n 3, 1) := by decide +kernel
theorem dL_law_579 : decode cL_law 579 = .ok (.iconst 3, 1) := by decide +kernel
theorem dL_law_580 : decode cL_law 580 = .ok (.iadd, 1) := by decide +kernel
theorem dL_law_581 : decode cL_law 581 = .ok (.iaload, 1) := by decide +kernel
theorem dL_law_582 : decode cL_law 582 = .ok (.invokevirtual 64, 3) := by decide +kernel
theorem dL_law_585 : decode cL_law 585 = .ok (.if_icmp .eq 1088, 3) := by decide +kernel
theorem dL_law_588 : decode cL_law 588 = .ok (.iconst 0, 1) := by decide +kernel
theorem dL_law_589 : decode cL_law 589 = .ok (.ireturn, 1) := by decide +kernel
theorem dL_law_590 : decode cL_law 590 = .ok (.aload_n 1, 1) := by decide +kernel
theorem dL_law_591 : decode cL_law 591 = .ok (.aload_n 0, 1) := by decide +kernel
theorem dL_law_592 : decode cL_law 592 = .ok (.iload_n 3, 1) := by decide +kernel
theorem dL_law_593 : decode cL_law 593 = .ok (.iconst 1, 1) := by decide +kernel
theorem dL_law_594 : decode cL_law 594 = .ok (.iadd, 1) := by decide +kernel
theorem dL_law_595 : decode cL_law 595 = .ok (.iaload, 1) := by decide +kernel
theorem dL_law_596 : decode cL_law 596 = .ok (.invokevirtual 65, 3) := by decide +kernel
theorem dL_law_599 : decode cL_law 599 = .ok (.aload_n 2, 1) := by decide +kernel
theorem dL_law_600 : decode cL_law 600 = .ok (.aload_n 0, 1) := by decide +kernel
theorem dL_law_601 : decode cL_law 601 = .ok (.iload_n 3, 1) := by decide +kernel
theorem dL_law_602 : decode cL_law 602 = .ok (.iconst 1, 1) := by decide +kernel
theorem dL_law_603 : decode cL_law 603 = .ok (.iadd, 1) := by decide +kernel
theorem dL_law_604 : decode cL_law 604 = .ok (.iaload, 1) := by decide +kernel
theorem dL_law_605 : decode cL_law 605 = .ok (.invokevirtual 68, 3) := by decide +kernel
theorem dL_law_608 : decode cL_law 608 = .ok (.if_icmp .eq 1065, 3) := by decide +kernel
theorem dL_law_611 : decode cL_law 611 = .ok (.iconst 0, 1) := by decide +kernel
theorem dL_law_612 : decode cL_law 612 = .ok (.ireturn, 1) := by decide +kernel
theorem dL_law_613 : decode cL_law 613 = .ok (.aload_n 1, 1) := by decide +kernel
theorem dL_law_614 : decode cL_law 614 = .ok (.aload_n 0, 1) := by decide +kernel
theorem dL_law_615 : decode cL_law 615 = .ok (.iload_n 3, 1) := by decide +kernel
theorem dL_law_616 : decode cL_law 616 = .ok (.iconst 1, 1) := by decide +kernel
theorem dL_law_617 : decode cL_law 617 = .ok (.iadd, 1) := by decide +kernel
theorem dL_law_618 : decode cL_law 618 = .ok (.iaload, 1) := by decide +kernel
theorem dL_law_619 : decode cL_law 619 = .ok (.invokevirtual 69, 3) := by decide +kernel
theorem dL_law_622 : decode cL_law 622 = .ok (.aload_n 2, 1) := by decide +kernel
theorem dL_law_623 : decode cL_law 623 = .ok (.aload_n 0, 1) := by decide +kernel
theorem dL_law_624 : decode cL_law 624 = .ok (.iload_n 3, 1) := by decide +kernel
theorem dL_law_625 : decode cL_law 625 = .ok (.iconst 1, 1) := by decide +kernel
theorem dL_law_626 : decode cL_law 626 = .ok (.iadd, 1) := by decide +kernel
theorem dL_law_627 : decode cL_law 627 = .ok (.iaload, 1) := by decide +kernel
theorem dL_law_628 : decode cL_law 628 = .ok (.invokevirtual 72, 3) := by decide +kernel
theorem dL_law_631 : decode cL_law 631 = .ok (.if_icmp .eq 1042, 3) := by decide +kernel
theorem dL_law_634 : decode cL_law 634 = .ok (.iconst 0, 1) := by decide +kernel
theorem dL_law_635 : decode cL_law 635 = .ok (.ireturn, 1) := by decide +kernel
theorem dL_law_636 : decode cL_law 636 = .ok (.aload_n 1, 1) := by decide +kernel
theorem dL_law_637 : decode cL_law 637 = .ok (.aload_n 0, 1) := by decide +kernel
theorem dL_law_638 : decode cL_law 638 = .ok (.iload_n 3, 1) := by decide +kernel
theorem dL_law_639 : decode cL_law 639 = .ok (.iconst 1, 1) := by decide +kernel
theorem dL_law_640 : decode cL_law 640 = .ok (.iadd, 1) := by decide +kernel
theorem dL_law_641 : decode cL_law 641 = .ok (.iaload, 1) := by decide +kernel
theorem dL_law_642 : decode cL_law 642 = .ok (.invokevirtual 73, 3) := by decide +kernel
theorem dL_law_645 : decode cL_law 645 = .ok (.aload_n 2, 1) := by decide +kernel
theorem dL_law_646 : decode cL_law 646 = .ok (.aload_n 0, 1) := by decide +kernel
theorem dL_law_647 : decode cL_law 647 = .ok (.iload_n 3, 1) := by decide +kernel
theorem dL_law_648 : decode cL_law 648 = .ok (.iconst 1, 1) := by decide +kernel
theorem dL_law_649 : decode cL_law 649 = .ok (.iadd, 1) := by decide +kernel
theorem dL_law_650 : decode cL_law 650 = .ok (.iaload, 1) := by decide +kernel
theorem dL_law_651 : decode cL_law 651 = .ok (.invokevirtual 76, 3) := by decide +kernel
theorem dL_law_654 : decode cL_law 654 = .ok (.if_icmp .eq 1019, 3) := by decide +kernel
theorem dL_law_657 : decode cL_law 657 = .ok (.iconst 0, 1) := by decide +kernel
theorem dL_law_658 : decode cL_law 658 = .ok (.ireturn, 1) := by decide +kernel
theorem dL_law_659 : decode cL_law 659 = .ok (.aload_n 1, 1) := by decide +kernel
theorem dL_law_660 : decode cL_law 660 = .ok (.aload_n 0, 1) := by decide +kernel
theorem dL_law_661 : decode cL_law 661 = .ok (.iload_n 3, 1) := by decide +kernel
theorem dL_law_662 : decode cL_law 662 = .ok (.iconst 1, 1) := by decide +kernel
theorem dL_law_663 : decode cL_law 663 = .ok (.iadd, 1) := by decide +kernel
theorem dL_law_664 : decode cL_law 664 = .ok (.iaload, 1) := by decide +kernel
theorem dL_law_665 : decode cL_law 665 = .ok (.aload_n 0, 1) := by decide +kernel
theorem dL_law_666 : decode cL_law 666 = .ok (.iload_n 3, 1) := by decide +kernel
theorem dL_law_667 : decode cL_law 667 = .ok (.iconst 2, 1) := by decide +kernel
theorem dL_law_668 : decode cL_law 668 = .ok (.iadd, 1) := by decide +kernel
theorem dL_law_669 : decode cL_law 669 = .ok (.iaload, 1) := by decide +kernel
theorem dL_law_670 : decode cL_law 670 = .ok (.aload_n 0, 1) := by decide +kernel
theorem dL_law_671 : decode cL_law 671 = .ok (.iload_n 3, 1) := by decide +kernel
theorem dL_law_672 : decode cL_law 672 = .ok (.iconst 3, 1) := by decide +kernel
theorem dL_law_673 : decode cL_law 673 = .ok (.iadd, 1) := by decide +kernel
theorem dL_law_674 : decode cL_law 674 = .ok (.iaload, 1) := by decide +kernel
theorem dL_law_675 : decode cL_law 675 = .ok (.invokevirtual 77, 3) := by decide +kernel
theorem dL_law_678 : decode cL_law 678 = .ok (.aload_n 2, 1) := by decide +kernel
theorem dL_law_679 : decode cL_law 679 = .ok (.aload_n 0, 1) := by decide +kernel
theorem dL_law_680 : decode cL_law 680 = .ok (.iload_n 3, 1) := by decide +kernel
theorem dL_law_681 : decode cL_law 681 = .ok (.iconst 1, 1) := by decide +kernel
theorem dL_law_682 : decode cL_law 682 = .ok (.iadd, 1) := by decide +kernel
theorem dL_law_683 : decode cL_law 683 = .ok (.iaload, 1) := by decide +kernel
theorem dL_law_684 : decode cL_law 684 = .ok (.aload_n 0, 1) := by decide +kernel
theorem dL_law_685 : decode cL_law 685 = .ok (.iload_n 3, 1) := by decide +kernel
theorem dL_law_686 : decode cL_law 686 = .ok (.iconst 2, 1) := by decide +kernel
theorem dL_law_687 : decode cL_law 687 = .ok (.iadd, 1) := by decide +kernel
theorem dL_law_688 : decode cL_law 688 = .ok (.iaload, 1) := by decide +kernel
theorem dL_law_689 : decode cL_law 689 = .ok (.aload_n 0, 1) := by decide +kernel
theorem dL_law_690 : decode cL_law 690 = .ok (.iload_n 3, 1) := by decide +kernel
theorem dL_law_691 : decode cL_law 691 = .ok (.iconst 3, 1) := by decide +kernel
theorem dL_law_692 : decode cL_law 692 = .ok (.iadd, 1) := by decide +kernel
theorem dL_law_693 : decode cL_law 693 = .ok (.iaload, 1) := by decide +kernel
theorem dL_law_694 : decode cL_law 694 = .ok (.invokevirtual 80, 3) := by decide +kernel
theorem dL_law_697 : decode cL_law 697 = .ok (.if_icmp .eq 976, 3) := by decide +kernel
theorem dL_law_700 : decode cL_law 700 = .ok (.iconst 0, 1) := by decide +kernel
theorem dL_law_701 : decode cL_law 701 = .ok (.ireturn, 1) := by decide +kernel
theorem dL_law_702 : decode cL_law 702 = .ok (.aload_n 1, 1) := by decide +kernel
theorem dL_law_703 : decode cL_law 703 = .ok (.aload_n 0, 1) := by decide +kernel
theorem dL_law_704 : decode cL_law 704 = .ok (.iload_n 3, 1) := by decide +kernel
theorem dL_law_705 : decode cL_law 705 = .ok (.iconst 1, 1) := by decide +kernel
theorem dL_law_706 : decode cL_law 706 = .ok (.iadd, 1) := by decide +kernel
theorem dL_law_707 : decode cL_law 707 = .ok (.iaload, 1) := by decide +kernel
theorem dL_law_708 : decode cL_law 708 = .ok (.aload_n 0, 1) := by decide +kernel
theorem dL_law_709 : decode cL_law 709 = .ok (.iload_n 3, 1) := by decide +kernel
theorem dL_law_710 : decode cL_law 710 = .ok (.iconst 2, 1) := by decide +kernel
theorem dL_law_711 : decode cL_law 711 = .ok (.iadd, 1) := by decide +kernel
theorem dL_law_712 : decode cL_law 712 = .ok (.iaload, 1) := by decide +kernel
theorem dL_law_713 : decode cL_law 713 = .ok (.aload_n 0, 1) := by decide +kernel
theorem dL_law_714 : decode cL_law 714 = .ok (.iload_n 3, 1) := by decide +kernel
theorem dL_law_715 : decode cL_law 715 = .ok (.iconst 3, 1) := by decide +kernel
theorem dL_law_716 : decode cL_law 716 = .ok (.iadd, 1) := by decide +kernel
theorem dL_law_717 : decode cL_law 717 = .ok (.iaload, 1) := by decide +kernel
theorem dL_law_718 : decode cL_law 718 = .ok (.invokevirtual 81, 3) := by decide +kernel
theorem dL_law_721 : decode cL_law 721 = .ok (.aload_n 2, 1) := by decide +kernel
theorem dL_law_722 : decode cL_law 722 = .ok (.aload_n 0, 1) := by decide +kernel
theorem dL_law_723 : decode cL_law 723 = .ok (.iload_n 3, 1) := by decide +kernel
theorem dL_law_724 : decode cL_law 724 = .ok (.iconst 1, 1) := by decide +kernel
theorem dL_law_725 : decode cL_law 725 = .ok (.iadd, 1) := by decide +kernel
theorem dL_law_726 : decode cL_law 726 = .ok (.iaload, 1) := by decide +kernel
theorem dL_law_727 : decode cL_law 727 = .ok (.aload_n 0, 1) := by decide +kernel
theorem dL_law_728 : decode cL_law 728 = .ok (.iload_n 3, 1) := by decide +kernel
theorem dL_law_729 : decode cL_law 729 = .ok (.iconst 2, 1) := by decide +kernel
theorem dL_law_730 : decode cL_law 730 = .ok (.iadd, 1) := by decide +kernel
theorem dL_law_731 : decode cL_law 731 = .ok (.iaload, 1) := by decide +kernel
theorem dL_law_732 : decode cL_law 732 = .ok (.aload_n 0, 1) := by decide +kernel
theorem dL_law_733 : decode cL_law 733 = .ok (.iload_n 3, 1) := by decide +kernel
theorem dL_law_734 : decode cL_law 734 = .ok (.iconst 3, 1) := by decide +kernel
theorem dL_law_735 : decode cL_law 735 = .ok (.iadd, 1) := by decide +kernel
theorem dL_law_736 : decode cL_law 736 = .ok (.iaload, 1) := by decide +kernel
theorem dL_law_737 : decode cL_law 737 = .ok (.invokevirtual 84, 3) := by decide +kernel
theorem dL_law_740 : decode cL_law 740 = .ok (.if_icmp .eq 933, 3) := by decide +kernel
theorem dL_law_743 : decode cL_law 743 = .ok (.iconst 0, 1) := by decide +kernel
theorem dL_law_744 : decode cL_law 744 = .ok (.ireturn, 1) := by decide +kernel
theorem dL_law_745 : decode cL_law 745 = .ok (.aload_n 1, 1) := by decide +kernel
theorem dL_law_746 : decode cL_law 746 = .ok (.aload_n 0, 1) := by decide +kernel
theorem dL_law_747 : decode cL_law 747 = .ok (.iload_n 3, 1) := by decide +kernel
theorem dL_law_748 : decode cL_law 748 = .ok (.iconst 1, 1) := by decide +kernel
theorem dL_law_749 : decode cL_law 749 = .ok (.iadd, 1) := by decide +kernel
theorem dL_law_750 : decode cL_law 750 = .ok (.iaload, 1) := by decide +kernel
theorem dL_law_751 : decode cL_law 751 = .ok (.invokevirtual 85, 3) := by decide +kernel
theorem dL_law_754 : decode cL_law 754 = .ok (.aload_n 2, 1) := by decide +kernel
theorem dL_law_755 : decode cL_law 755 = .ok (.aload_n 0, 1) := by decide +kernel
theorem dL_law_756 : decode cL_law 756 = .ok (.iload_n 3, 1) := by decide +kernel
theorem dL_law_757 : decode cL_law 757 = .ok (.iconst 1, 1) := by decide +kernel
theorem dL_law_758 : decode cL_law 758 = .ok (.iadd, 1) := by decide +kernel
theorem dL_law_759 : decode cL_law 759 = .ok (.iaload, 1) := by decide +kernel
theorem dL_law_760 : decode cL_law 760 = .ok (.invokevirtual 88, 3) := by decide +kernel
theorem dL_law_763 : decode cL_law 763 = .ok (.if_icmp .eq 910, 3) := by decide +kernel
theorem dL_law_766 : decode cL_law 766 = .ok (.iconst 0, 1) := by decide +kernel
theorem dL_law_767 : decode cL_law 767 = .ok (.ireturn, 1) := by decide +kernel
theorem dL_law_768 : decode cL_law 768 = .ok (.aload_n 1, 1) := by decide +kernel
theorem dL_law_769 : decode cL_law 769 = .ok (.aload_n 0, 1) := by decide +kernel
theorem dL_law_770 : decode cL_law 770 = .ok (.iload_n 3, 1) := by decide +kernel
theorem dL_law_771 : decode cL_law 771 = .ok (.iconst 1, 1) := by decide +kernel
theorem dL_law_772 : decode cL_law 772 = .ok (.iadd, 1) := by decide +kernel
theorem dL_law_773 : decode cL_law 773 = .ok (.iaload, 1) := by decide +kernel
theorem dL_law_774 : decode cL_law 774 = .ok (.aload_n 0, 1) := by decide +kernel
theorem dL_law_775 : decode cL_law 775 = .ok (.iload_n 3, 1) := by decide +kernel
theorem dL_law_776 : decode cL_law 776 = .ok (.iconst 2, 1) := by decide +kernel
theorem dL_law_777 : decode cL_law 777 = .ok (.iadd, 1) := by decide +kernel
theorem dL_law_778 : decode cL_law 778 = .ok (.iaload, 1) := by decide +kernel
theorem dL_law_779 : decode cL_law 779 = .ok (.invokevirtual 89, 3) := by decide +kernel
theorem dL_law_782 : decode cL_law 782 = .ok (.aload_n 2, 1) := by decide +kernel
theorem dL_law_783 : decode cL_law 783 = .ok (.aload_n 0, 1) := by decide +kernel
theorem dL_law_784 : decode cL_law 784 = .ok (.iload_n 3, 1) := by decide +kernel
theorem dL_law_785 : decode cL_law 785 = .ok (.iconst 1, 1) := by decide +kernel
theorem dL_law_786 : decode cL_law 786 = .ok (.iadd, 1) := by decide +kernel
theorem dL_law_787 : decode cL_law 787 = .ok (.iaload, 1) := by decide +kernel
theorem dL_law_788 : decode cL_law 788 = .ok (.aload_n 0, 1) := by decide +kernel
theorem dL_law_789 : decode cL_law 789 = .ok (.iload_n 3, 1) := by decide +kernel
theorem dL_law_790 : decode cL_law 790 = .ok (.iconst 2, 1) := by decide +kernel
theorem dL_law_791 : decode cL_law 791 = .ok (.iadd, 1) := by decide +kernel
theorem dL_law_792 : decode cL_law 792 = .ok (.iaload, 1) := by decide +kernel
theorem dL_law_793 : decode cL_law 793 = .ok (.invokevirtual 92, 3) := by decide +kernel
theorem dL_law_796 : decode cL_law 796 = .ok (.if_icmp .eq 877, 3) := by decide +kernel
theorem dL_law_799 : decode cL_law 799 = .ok (.iconst 0, 1) := by decide +kernel
theorem dL_law_800 : decode cL_law 800 = .ok (.ireturn, 1) := by decide +kernel
theorem dL_law_801 : decode cL_law 801 = .ok (.aload_n 1, 1) := by decide +kernel
theorem dL_law_802 : decode cL_law 802 = .ok (.aload_n 0, 1) := by decide +kernel
theorem dL_law_803 : decode cL_law 803 = .ok (.iload_n 3, 1) := by decide +kernel
theorem dL_law_804 : decode cL_law 804 = .ok (.iconst 1, 1) := by decide +kernel
theorem dL_law_805 : decode cL_law 805 = .ok (.iadd, 1) := by decide +kernel
theorem dL_law_806 : decode cL_law 806 = .ok (.iaload, 1) := by decide +kernel
theorem dL_law_807 : decode cL_law 807 = .ok (.aload_n 0, 1) := by decide +kernel
theorem dL_law_808 : decode cL_law 808 = .ok (.iload_n 3, 1) := by decide +kernel
theorem dL_law_809 : decode cL_law 809 = .ok (.iconst 2, 1) := by decide +kernel
theorem dL_law_810 : decode cL_law 810 = .ok (.iadd, 1) := by decide +kernel
theorem dL_law_811 : decode cL_law 811 = .ok (.iaload, 1) := by decide +kernel
theorem dL_law_812 : decode cL_law 812 = .ok (.aload_n 0, 1) := by decide +kernel
theorem dL_law_813 : decode cL_law 813 = .ok (.iload_n 3, 1) := by decide +kernel
theorem dL_law_814 : decode cL_law 814 = .ok (.iconst 3, 1) := by decide +kernel
theorem dL_law_815 : decode cL_law 815 = .ok (.iadd, 1) := by decide +kernel
theorem dL_law_816 : decode cL_law 816 = .ok (.iaload, 1) := by decide +kernel
theorem dL_law_817 : decode cL_law 817 = .ok (.invokevirtual 93, 3) := by decide +kernel
theorem dL_law_820 : decode cL_law 820 = .ok (.aload_n 2, 1) := by decide +kernel
theorem dL_law_821 : decode cL_law 821 = .ok (.aload_n 0, 1) := by decide +kernel
theorem dL_law_822 : decode cL_law 822 = .ok (.iload_n 3, 1) := by decide +kernel
theorem dL_law_823 : decode cL_law 823 = .ok (.iconst 1, 1) := by decide +kernel
theorem dL_law_824 : decode cL_law 824 = .ok (.iadd, 1) := by decide +kernel
theorem dL_law_825 : decode cL_law 825 = .ok (.iaload, 1) := by decide +kernel
theorem dL_law_826 : decode cL_law 826 = .ok (.aload_n 0, 1) := by decide +kernel
theorem dL_law_827 : decode cL_law 827 = .ok (.iload_n 3, 1) := by decide +kernel
theorem dL_law_828 : decode cL_law 828 = .ok (.iconst 2, 1) := by decide +kernel
theorem dL_law_829 : decode cL_law 829 = .ok (.iadd, 1) := by decide +kernel
theorem dL_law_830 : decode cL_law 830 = .ok (.iaload, 1) := by decide +kernel
theorem dL_law_831 : decode cL_law 831 = .ok (.aload_n 0, 1) := by decide +kernel
theorem dL_law_832 : decode cL_law 832 = .ok (.iload_n 3, 1) := by decide +kernel
theorem dL_law_833 : decode cL_law 833 = .ok (.iconst 3, 1) := by decide +kernel
theorem dL_law_834 : decode cL_law 834 = .ok (.iadd, 1) := by decide +kernel
theorem dL_law_835 : decode cL_law 835 = .ok (.iaload, 1) := by decide +kernel
theorem dL_law_836 : decode cL_law 836 = .ok (.invokevirtual 96, 3) := by decide +kernel
theorem dL_law_839 : decode cL_law 839 = .ok (.if_icmp .eq 834, 3) := by decide +kernel
theorem dL_law_842 : decode cL_law 842 = .ok (.iconst 0, 1) := by decide +kernel
theorem dL_law_843 : decode cL_law 843 = .ok (.ireturn, 1) := by decide +kernel
theorem dL_law_844 : decode cL_law 844 = .ok (.aload_n 1, 1) := by decide +kernel
theorem dL_law_845 : decode cL_law 845 = .ok (.aload_n 0, 1) := by decide +kernel
theorem dL_law_846 : decode cL_law 846 = .ok (.iload_n 3, 1) := by decide +kernel
theorem dL_law_847 : decode cL_law 847 = .ok (.iconst 1, 1) := by decide +kernel
theorem dL_law_848 : decode cL_law 848 = .ok (.iadd, 1) := by decide +kernel
theorem dL_law_849 : decode cL_law 849 = .ok (.iaload, 1) := by decide +kernel
theorem dL_law_850 : decode cL_law 850 = .ok (.aload_n 0, 1) := by decide +kernel
theorem dL_law_851 : decode cL_law 851 = .ok (.iload_n 3, 1) := by decide +kernel
theorem dL_law_852 : decode cL_law 852 = .ok (.iconst 2, 1) := by decide +kernel
theorem dL_law_853 : decode cL_law 853 = .ok (.iadd, 1) := by decide +kernel
theorem dL_law_854 : decode cL_law 854 = .ok (.iaload, 1) := by decide +kernel
theorem dL_law_855 : decode cL_law 855 = .ok (.aload_n 0, 1) := by decide +kernel
theorem dL_law_856 : decode cL_law 856 = .ok (.iload_n 3, 1) := by decide +kernel
theorem dL_law_857 : decode cL_law 857 = .ok (.iconst 3, 1) := by decide +kernel
theorem dL_law_858 : decode cL_law 858 = .ok (.iadd, 1) := by decide +kernel
theorem dL_law_859 : decode cL_law 859 = .ok (.iaload, 1) := by decide +kernel
theorem dL_law_860 : decode cL_law 860 = .ok (.invokevirtual 97, 3) := by decide +kernel
theorem dL_law_863 : decode cL_law 863 = .ok (.aload_n 2, 1) := by decide +kernel
theorem dL_law_864 : decode cL_law 864 = .ok (.aload_n 0, 1) := by decide +kernel
theorem dL_law_865 : decode cL_law 865 = .ok (.iload_n 3, 1) := by decide +kernel
theorem dL_law_866 : decode cL_law 866 = .ok (.iconst 1, 1) := by decide +kernel
theorem dL_law_867 : decode cL_law 867 = .ok (.iadd, 1) := by decide +kernel
theorem dL_law_868 : decode cL_law 868 = .ok (.iaload, 1) := by decide +kernel
theorem dL_law_869 : decode cL_law 869 = .ok (.aload_n 0, 1) := by decide +kernel
theorem dL_law_870 : decode cL_law 870 = .ok (.iload_n 3, 1) := by decide +kernel
theorem dL_law_871 : decode cL_law 871 = .ok (.iconst 2, 1) := by decide +kernel
theorem dL_law_872 : decode cL_law 872 = .ok (.iadd, 1) := by decide +kernel
theorem dL_law_873 : decode cL_law 873 = .ok (.iaload, 1) := by decide +kernel
theorem dL_law_874 : decode cL_law 874 = .ok (.aload_n 0, 1) := by decide +kernel
theorem dL_law_875 : decode cL_law 875 = .ok (.iload_n 3, 1) := by decide +kernel
theorem dL_law_876 : decode cL_law 876 = .ok (.iconst 3, 1) := by decide +kernel
theorem dL_law_877 : decode cL_law 877 = .ok (.iadd, 1) := by decide +kernel
theorem dL_law_878 : decode cL_law 878 = .ok (.iaload, 1) := by decide +kernel
theorem dL_law_879 : decode cL_law 879 = .ok (.invokevirtual 100, 3) := by decide +kernel
theorem dL_law_882 : decode cL_law 882 = .ok (.if_icmp .eq 791, 3) := by decide +kernel
theorem dL_law_885 : decode cL_law 885 = .ok (.iconst 0, 1) := by decide +kernel
theorem dL_law_886 : decode cL_law 886 = .ok (.ireturn, 1) := by decide +kernel
theorem dL_law_887 : decode cL_law 887 = .ok (.aload_n 1, 1) := by decide +kernel
theorem dL_law_888 : decode cL_law 888 = .ok (.aload_n 0, 1) := by decide +kernel
theorem dL_law_889 : decode cL_law 889 = .ok (.iload_n 3, 1) := by decide +kernel
theorem dL_law_890 : decode cL_law 890 = .ok (.iconst 1, 1) := by decide +kernel
theorem dL_law_891 : decode cL_law 891 = .ok (.iadd, 1) := by decide +kernel
theorem dL_law_892 : decode cL_law 892 = .ok (.iaload, 1) := by decide +kernel
theorem dL_law_893 : decode cL_law 893 = .ok (.invokevirtual 101, 3) := by decide +kernel
theorem dL_law_896 : decode cL_law 896 = .ok (.aload_n 2, 1) := by decide +kernel
theorem dL_law_897 : decode cL_law 897 = .ok (.aload_n 0, 1) := by decide +kernel
theorem dL_law_898 : decode cL_law 898 = .ok (.iload_n 3, 1) := by decide +kernel
theorem dL_law_899 : decode cL_law 899 = .ok (.iconst 1, 1) := by decide +kernel
theorem dL_law_900 : decode cL_law 900 = .ok (.iadd, 1) := by decide +kernel
theorem dL_law_901 : decode cL_law 901 = .ok (.iaload, 1) := by decide +kernel
theorem dL_law_902 : decode cL_law 902 = .ok (.invokevirtual 104, 3) := by decide +kernel
theorem dL_law_905 : decode cL_law 905 = .ok (.if_icmp .eq 768, 3) := by decide +kernel
theorem dL_law_908 : decode cL_law 908 = .ok (.iconst 0, 1) := by decide +kernel
theorem dL_law_909 : decode cL_law 909 = .ok (.ireturn, 1) := by decide +kernel
theorem dL_law_910 : decode cL_law 910 = .ok (.aload_n 1, 1) := by decide +kernel
theorem dL_law_911 : decode cL_law 911 = .ok (.aload_n 0, 1) := by decide +kernel
theorem dL_law_912 : decode cL_law 912 = .ok (.iload_n 3, 1) := by decide +kernel
theorem dL_law_913 : decode cL_law 913 = .ok (.iconst 1, 1) := by decide +kernel
theorem dL_law_914 : decode cL_law 914 = .ok (.iadd, 1) := by decide +kernel
theorem dL_law_915 : decode cL_law 915 = .ok (.iaload, 1) := by decide +kernel
theorem dL_law_916 : decode cL_law 916 = .ok (.aload_n 0, 1) := by decide +kernel
theorem dL_law_917 : decode cL_law 917 = .ok (.iload_n 3, 1) := by decide +kernel
theorem dL_law_918 : decode cL_law 918 = .ok (.iconst 2, 1) := by decide +kernel
theorem dL_law_919 : decode cL_law 919 = .ok (.iadd, 1) := by decide +kernel
theorem dL_law_920 : decode cL_law 920 = .ok (.iaload, 1) := by decide +kernel
theorem dL_law_921 : decode cL_law 921 = .ok (.invokevirtual 105, 3) := by decide +kernel
theorem dL_law_924 : decode cL_law 924 = .ok (.aload_n 2, 1) := by decide +kernel
theorem dL_law_925 : decode cL_law 925 = .ok (.aload_n 0, 1) := by decide +kernel
theorem dL_law_926 : decode cL_law 926 = .ok (.iload_n 3, 1) := by decide +kernel
theorem dL_law_927 : decode cL_law 927 = .ok (.iconst 1, 1) := by decide +kernel
theorem dL_law_928 : decode cL_law 928 = .ok (.iadd, 1) := by decide +kernel
theorem dL_law_929 : decode cL_law 929 = .ok (.iaload, 1) := by decide +kernel
theorem dL_law_930 : decode cL_law 930 = .ok (.aload_n 0, 1) := by decide +kernel
theorem dL_law_931 : decode cL_law 931 = .ok (.iload_n 3, 1) := by decide +kernel
theorem dL_law_932 : decode cL_law 932 = .ok (.iconst 2, 1) := by decide +kernel
theorem dL_law_933 : decode cL_law 933 = .ok (.iadd, 1) := by decide +kernel
theorem dL_law_934 : decode cL_law 934 = .ok (.iaload, 1) := by decide +kernel
theorem dL_law_935 : decode cL_law 935 = .ok (.invokevirtual 109, 3) := by decide +kernel
theorem dL_law_938 : decode cL_law 938 = .ok (.lcmp, 1) := by decide +kernel
theorem dL_law_939 : decode cL_law 939 = .ok (.ifCond .eq 734, 3) := by decide +kernel
theorem dL_law_942 : decode cL_law 942 = .ok (.iconst 0, 1) := by decide +kernel
theorem dL_law_943 : decode cL_law 943 = .ok (.ireturn, 1) := by decide +kernel
theorem dL_law_944 : decode cL_law 944 = .ok (.aload_n 1, 1) := by decide +kernel
theorem dL_law_945 : decode cL_law 945 = .ok (.aload_n 0, 1) := by decide +kernel
theorem dL_law_946 : decode cL_law 946 = .ok (.iload_n 3, 1) := by decide +kernel
theorem dL_law_947 : decode cL_law 947 = .ok (.iconst 1, 1) := by decide +kernel
theorem dL_law_948 : decode cL_law 948 = .ok (.iadd, 1) := by decide +kernel
theorem dL_law_949 : decode cL_law 949 = .ok (.iaload, 1) := by decide +kernel
theorem dL_law_950 : decode cL_law 950 = .ok (.aload_n 0, 1) := by decide +kernel
theorem dL_law_951 : decode cL_law 951 = .ok (.iload_n 3, 1) := by decide +kernel
theorem dL_law_952 : decode cL_law 952 = .ok (.iconst 2, 1) := by decide +kernel
theorem dL_law_953 : decode cL_law 953 = .ok (.iadd, 1) := by decide +kernel
theorem dL_law_954 : decode cL_law 954 = .ok (.iaload, 1) := by decide +kernel
theorem dL_law_955 : decode cL_law 955 = .ok (.invokevirtual 110, 3) := by decide +kernel
theorem dL_law_958 : decode cL_law 958 = .ok (.aload_n 2, 1) := by decide +kernel
theorem dL_law_959 : decode cL_law 959 = .ok (.aload_n 0, 1) := by decide +kernel
theorem dL_law_960 : decode cL_law 960 = .ok (.iload_n 3, 1) := by decide +kernel
theorem dL_law_961 : decode cL_law 961 = .ok (.iconst 1, 1) := by decide +kernel
theorem dL_law_962 : decode cL_law 962 = .ok (.iadd, 1) := by decide +kernel
theorem dL_law_963 : decode cL_law 963 = .ok (.iaload, 1) := by decide +kernel
theorem dL_law_964 : decode cL_law 964 = .ok (.aload_n 0, 1) := by decide +kernel
theorem dL_law_965 : decode cL_law 965 = .ok (.iload_n 3, 1) := by decide +kernel
theorem dL_law_966 : decode cL_law 966 = .ok (.iconst 2, 1) := by decide +kernel
theorem dL_law_967 : decode cL_law 967 = .ok (.iadd, 1) := by decide +kernel
theorem dL_law_968 : decode cL_law 968 = .ok (.iaload, 1) := by decide +kernel
theorem dL_law_969 : decode cL_law 969 = .ok (.invokevirtual 113, 3) := by decide +kernel
theorem dL_law_972 : decode cL_law 972 = .ok (.if_icmp .eq 701, 3) := by decide +kernel
theorem dL_law_975 : decode cL_law 975 = .ok (.iconst 0, 1) := by decide +kernel
theorem dL_law_976 : decode cL_law 976 = .ok (.ireturn, 1) := by decide +kernel
theorem dL_law_977 : decode cL_law 977 = .ok (.aload_n 1, 1) := by decide +kernel
theorem dL_law_978 : decode cL_law 978 = .ok (.aload_n 0, 1) := by decide +kernel
theorem dL_law_979 : decode cL_law 979 = .ok (.iload_n 3, 1) := by decide +kernel
theorem dL_law_980 : decode cL_law 980 = .ok (.iconst 1, 1) := by decide +kernel
theorem dL_law_981 : decode cL_law 981 = .ok (.iadd, 1) := by decide +kernel
theorem dL_law_982 : decode cL_law 982 = .ok (.iaload, 1) := by decide +kernel
theorem dL_law_983 : decode cL_law 983 = .ok (.aload_n 0, 1) := by decide +kernel
theorem dL_law_984 : decode cL_law 984 = .ok (.iload_n 3, 1) := by decide +kernel
theorem dL_law_985 : decode cL_law 985 = .ok (.iconst 2, 1) := by decide +kernel
theorem dL_law_986 : decode cL_law 986 = .ok (.iadd, 1) := by decide +kernel
theorem dL_law_987 : decode cL_law 987 = .ok (.iaload, 1) := by decide +kernel
theorem dL_law_988 : decode cL_law 988 = .ok (.aload_n 0, 1) := by decide +kernel
theorem dL_law_989 : decode cL_law 989 = .ok (.iload_n 3, 1) := by decide +kernel
theorem dL_law_990 : decode cL_law 990 = .ok (.iconst 3, 1) := by decide +kernel
theorem dL_law_991 : decode cL_law 991 = .ok (.iadd, 1) := by decide +kernel
theorem dL_law_992 : decode cL_law 992 = .ok (.iaload, 1) := by decide +kernel
theorem dL_law_993 : decode cL_law 993 = .ok (.invokevirtual 114, 3) := by decide +kernel
theorem dL_law_996 : decode cL_law 996 = .ok (.aload_n 2, 1) := by decide +kernel
theorem dL_law_997 : decode cL_law 997 = .ok (.aload_n 0, 1) := by decide +kernel
theorem dL_law_998 : decode cL_law 998 = .ok (.iload_n 3, 1) := by decide +kernel
theorem dL_law_999 : decode cL_law 999 = .ok (.iconst 1, 1) := by decide +kernel
theorem dL_law_1000 : decode cL_law 1000 = .ok (.iadd, 1) := by decide +kernel
theorem dL_law_1001 : decode cL_law 1001 = .ok (.iaload, 1) := by decide +kernel
theorem dL_law_1002 : decode cL_law 1002 = .ok (.aload_n 0, 1) := by decide +kernel
theorem dL_law_1003 : decode cL_law 1003 = .ok (.iload_n 3, 1) := by decide +kernel
theorem dL_law_1004 : decode cL_law 1004 = .ok (.iconst 2, 1) := by decide +kernel
theorem dL_law_1005 : decode cL_law 1005 = .ok (.iadd, 1) := by decide +kernel
theorem dL_law_1006 : decode cL_law 1006 = .ok (.iaload, 1) := by decide +kernel
theorem dL_law_1007 : decode cL_law 1007 = .ok (.aload_n 0, 1) := by decide +kernel
theorem dL_law_1008 : decode cL_law 1008 = .ok (.iload_n 3, 1) := by decide +kernel
theorem dL_law_1009 : decode cL_law 1009 = .ok (.iconst 3, 1) := by decide +kernel
theorem dL_law_1010 : decode cL_law 1010 = .ok (.iadd, 1) := by decide +kernel
theorem dL_law_1011 : decode cL_law 1011 = .ok (.iaload, 1) := by decide +kernel
theorem dL_law_1012 : decode cL_law 1012 = .ok (.invokevirtual 117, 3) := by decide +kernel
theorem dL_law_1015 : decode cL_law 1015 = .ok (.if_icmp .eq 658, 3) := by decide +kernel
theorem dL_law_1018 : decode cL_law 1018 = .ok (.iconst 0, 1) := by decide +kernel
theorem dL_law_1019 : decode cL_law 1019 = .ok (.ireturn, 1) := by decide +kernel
theorem dL_law_1020 : decode cL_law 1020 = .ok (.aload_n 1, 1) := by decide +kernel
theorem dL_law_1021 : decode cL_law 1021 = .ok (.aload_n 0, 1) := by decide +kernel
theorem dL_law_1022 : decode cL_law 1022 = .ok (.iload_n 3, 1) := by decide +kernel
theorem dL_law_1023 : decode cL_law 1023 = .ok (.iconst 1, 1) := by decide +kernel
theorem dL_law_1024 : decode cL_law 1024 = .ok (.iadd, 1) := by decide +kernel
theorem dL_law_1025 : decode cL_law 1025 = .ok (.iaload, 1) := by decide +kernel
theorem dL_law_1026 : decode cL_law 1026 = .ok (.aload_n 0, 1) := by decide +kernel
theorem dL_law_1027 : decode cL_law 1027 = .ok (.iload_n 3, 1) := by decide +kernel
theorem dL_law_1028 : decode cL_law 1028 = .ok (.iconst 2, 1) := by decide +kernel
theorem dL_law_1029 : decode cL_law 1029 = .ok (.iadd, 1) := by decide +kernel
theorem dL_law_1030 : decode cL_law 1030 = .ok (.iaload, 1) := by decide +kernel
theorem dL_law_1031 : decode cL_law 1031 = .ok (.invokevirtual 118, 3) := by decide +kernel
theorem dL_law_1034 : decode cL_law 1034 = .ok (.aload_n 2, 1) := by decide +kernel
theorem dL_law_1035 : decode cL_law 1035 = .ok (.aload_n 0, 1) := by decide +kernel
theorem dL_law_1036 : decode cL_law 1036 = .ok (.iload_n 3, 1) := by decide +kernel
theorem dL_law_1037 : decode cL_law 1037 = .ok (.iconst 1, 1) := by decide +kernel
theorem dL_law_1038 : decode cL_law 1038 = .ok (.iadd, 1) := by decide +kernel
theorem dL_law_1039 : decode cL_law 1039 = .ok (.iaload, 1) := by decide +kernel
theorem dL_law_1040 : decode cL_law 1040 = .ok (.aload_n 0, 1) := by decide +kernel
theorem dL_law_1041 : decode cL_law 1041 = .ok (.iload_n 3, 1) := by decide +kernel
theorem dL_law_1042 : decode cL_law 1042 = .ok (.iconst 2, 1) := by decide +kernel
theorem dL_law_1043 : decode cL_law 1043 = .ok (.iadd, 1) := by decide +kernel
theorem dL_law_1044 : decode cL_law 1044 = .ok (.iaload, 1) := by decide +kernel
theorem dL_law_1045 : decode cL_law 1045 = .ok (.invokevirtual 121, 3) := by decide +kernel
theorem dL_law_1048 : decode cL_law 1048 = .ok (.if_icmp .eq 625, 3) := by decide +kernel
theorem dL_law_1051 : decode cL_law 1051 = .ok (.iconst 0, 1) := by decide +kernel
theorem dL_law_1052 : decode cL_law 1052 = .ok (.ireturn, 1) := by decide +kernel
theorem dL_law_1053 : decode cL_law 1053 = .ok (.aload_n 1, 1) := by decide +kernel
theorem dL_law_1054 : decode cL_law 1054 = .ok (.aload_n 0, 1) := by decide +kernel
theorem dL_law_1055 : decode cL_law 1055 = .ok (.iload_n 3, 1) := by decide +kernel
theorem dL_law_1056 : decode cL_law 1056 = .ok (.iconst 1, 1) := by decide +kernel
theorem dL_law_1057 : decode cL_law 1057 = .ok (.iadd, 1) := by decide +kernel
theorem dL_law_1058 : decode cL_law 1058 = .ok (.iaload, 1) := by decide +kernel
theorem dL_law_1059 : decode cL_law 1059 = .ok (.invokevirtual 122, 3) := by decide +kernel
theorem dL_law_1062 : decode cL_law 1062 = .ok (.aload_n 2, 1) := by decide +kernel
theorem dL_law_1063 : decode cL_law 1063 = .ok (.aload_n 0, 1) := by decide +kernel
theorem dL_law_1064 : decode cL_law 1064 = .ok (.iload_n 3, 1) := by decide +kernel
theorem dL_law_1065 : decode cL_law 1065 = .ok (.iconst 1, 1) := by decide +kernel
theorem dL_law_1066 : decode cL_law 1066 = .ok (.iadd, 1) := by decide +kernel
theorem dL_law_1067 : decode cL_law 1067 = .ok (.iaload, 1) := by decide +kernel
theorem dL_law_1068 : decode cL_law 1068 = .ok (.invokevirtual 125, 3) := by decide +kernel
theorem dL_law_1071 : decode cL_law 1071 = .ok (.if_icmp .eq 602, 3) := by decide +kernel
theorem dL_law_1074 : decode cL_law 1074 = .ok (.iconst 0, 1) := by decide +kernel
theorem dL_law_1075 : decode cL_law 1075 = .ok (.ireturn, 1) := by decide +kernel
theorem dL_law_1076 : decode cL_law 1076 = .ok (.aload_n 1, 1) := by decide +kernel
theorem dL_law_1077 : decode cL_law 1077 = .ok (.aload_n 0, 1) := by decide +kernel
theorem dL_law_1078 : decode cL_law 1078 = .ok (.iload_n 3, 1) := by decide +kernel
theorem dL_law_1079 : decode cL_law 1079 = .ok (.iconst 1, 1) := by decide +kernel
theorem dL_law_1080 : decode cL_law 1080 = .ok (.iadd, 1) := by decide +kernel
theorem dL_law_1081 : decode cL_law 1081 = .ok (.iaload, 1) := by decide +kernel
theorem dL_law_1082 : decode cL_law 1082 = .ok (.aload_n 0, 1) := by decide +kernel
theorem dL_law_1083 : decode cL_law 1083 = .ok (.iload_n 3, 1) := by decide +kernel
theorem dL_law_1084 : decode cL_law 1084 = .ok (.iconst 2, 1) := by decide +kernel
theorem dL_law_1085 : decode cL_law 1085 = .ok (.iadd, 1) := by decide +kernel
theorem dL_law_1086 : decode cL_law 1086 = .ok (.iaload, 1) := by decide +kernel
theorem dL_law_1087 : decode cL_law 1087 = .ok (.aload_n 0, 1) := by decide +kernel
theorem dL_law_1088 : decode cL_law 1088 = .ok (.iload_n 3, 1) := by decide +kernel
theorem dL_law_1089 : decode cL_law 1089 = .ok (.iconst 3, 1) := by decide +kernel
theorem dL_law_1090 : decode cL_law 1090 = .ok (.iadd, 1) := by decide +kernel
theorem dL_law_1091 : decode cL_law 1091 = .ok (.iaload, 1) := by decide +kernel
theorem dL_law_1092 : decode cL_law 1092 = .ok (.aload_n 0, 1) := by decide +kernel
theorem dL_law_1093 : decode cL_law 1093 = .ok (.iload_n 3, 1) := by decide +kernel
theorem dL_law_1094 : decode cL_law 1094 = .ok (.iconst 4, 1) := by decide +kernel
theorem dL_law_1095 : decode cL_law 1095 = .ok (.iadd, 1) := by decide +kernel
theorem dL_law_1096 : decode cL_law 1096 = .ok (.iaload, 1) := by decide +kernel
theorem dL_law_1097 : decode cL_law 1097 = .ok (.aload_n 0, 1) := by decide +kernel
theorem dL_law_1098 : decode cL_law 1098 = .ok (.iload_n 3, 1) := by decide +kernel
theorem dL_law_1099 : decode cL_law 1099 = .ok (.iconst 5, 1) := by decide +kernel
theorem dL_law_1100 : decode cL_law 1100 = .ok (.iadd, 1) := by decide +kernel
theorem dL_law_1101 : decode cL_law 1101 = .ok (.iaload, 1) := by decide +kernel
theorem dL_law_1102 : decode cL_law 1102 = .ok (.invokevirtual 126, 3) := by decide +kernel
theorem dL_law_1105 : decode cL_law 1105 = .ok (.aload_n 2, 1) := by decide +kernel
theorem dL_law_1106 : decode cL_law 1106 = .ok (.aload_n 0, 1) := by decide +kernel
theorem dL_law_1107 : decode cL_law 1107 = .ok (.iload_n 3, 1) := by decide +kernel
theorem dL_law_1108 : decode cL_law 1108 = .ok (.iconst 1, 1) := by decide +kernel
theorem dL_law_1109 : decode cL_law 1109 = .ok (.iadd, 1) := by decide +kernel
theorem dL_law_1110 : decode cL_law 1110 = .ok (.iaload, 1) := by decide +kernel
theorem dL_law_1111 : decode cL_law 1111 = .ok (.aload_n 0, 1) := by decide +kernel
theorem dL_law_1112 : decode cL_law 1112 = .ok (.iload_n 3, 1) := by decide +kernel
theorem dL_law_1113 : decode cL_law 1113 = .ok (.iconst 2, 1) := by decide +kernel
theorem dL_law_1114 : decode cL_law 1114 = .ok (.iadd, 1) := by decide +kernel
theorem dL_law_1115 : decode cL_law 1115 = .ok (.iaload, 1) := by decide +kernel
theorem dL_law_1116 : decode cL_law 1116 = .ok (.aload_n 0, 1) := by decide +kernel
theorem dL_law_1117 : decode cL_law 1117 = .ok (.iload_n 3, 1) := by decide +kernel
theorem dL_law_1118 : decode cL_law 1118 = .ok (.iconst 3, 1) := by decide +kernel
theorem dL_law_1119 : decode cL_law 1119 = .ok (.iadd, 1) := by decide +kernel
theorem dL_law_1120 : decode cL_law 1120 = .ok (.iaload, 1) := by decide +kernel
theorem dL_law_1121 : decode cL_law 1121 = .ok (.aload_n 0, 1) := by decide +kernel
theorem dL_law_1122 : decode cL_law 1122 = .ok (.iload_n 3, 1) := by decide +kernel
theorem dL_law_1123 : decode cL_law 1123 = .ok (.iconst 4, 1) := by decide +kernel
theorem dL_law_1124 : decode cL_law 1124 = .ok (.iadd, 1) := by decide +kernel
theorem dL_law_1125 : decode cL_law 1125 = .ok (.iaload, 1) := by decide +kernel
theorem dL_law_1126 : decode cL_law 1126 = .ok (.aload_n 0, 1) := by decide +kernel
theorem dL_law_1127 : decode cL_law 1127 = .ok (.iload_n 3, 1) := by decide +kernel
theorem dL_law_1128 : decode cL_law 1128 = .ok (.iconst 5, 1) := by decide +kernel
theorem dL_law_1129 : decode cL_law 1129 = .ok (.iadd, 1) := by decide +kernel
theorem dL_law_1130 : decode cL_law 1130 = .ok (.iaload, 1) := by decide +kernel
theorem dL_law_1131 : decode cL_law 1131 = .ok (.invokevirtual 130, 3) := by decide +kernel
theorem dL_law_1134 : decode cL_law 1134 = .ok (.lcmp, 1) := by decide +kernel
theorem dL_law_1135 : decode cL_law 1135 = .ok (.ifCond .eq 538, 3) := by decide +kernel
theorem dL_law_1138 : decode cL_law 1138 = .ok (.iconst 0, 1) := by decide +kernel
theorem dL_law_1139 : decode cL_law 1139 = .ok (.ireturn, 1) := by decide +kernel
theorem dL_law_1140 : decode cL_law 1140 = .ok (.aload_n 1, 1) := by decide +kernel
theorem dL_law_1141 : decode cL_law 1141 = .ok (.aload_n 0, 1) := by decide +kernel
theorem dL_law_1142 : decode cL_law 1142 = .ok (.iload_n 3, 1) := by decide +kernel
theorem dL_law_1143 : decode cL_law 1143 = .ok (.iconst 1, 1) := by decide +kernel
theorem dL_law_1144 : decode cL_law 1144 = .ok (.iadd, 1) := by decide +kernel
theorem dL_law_1145 : decode cL_law 1145 = .ok (.iaload, 1) := by decide +kernel
theorem dL_law_1146 : decode cL_law 1146 = .ok (.invokevirtual 131, 3) := by decide +kernel
theorem dL_law_1149 : decode cL_law 1149 = .ok (.aload_n 2, 1) := by decide +kernel
theorem dL_law_1150 : decode cL_law 1150 = .ok (.aload_n 0, 1) := by decide +kernel
theorem dL_law_1151 : decode cL_law 1151 = .ok (.iload_n 3, 1) := by decide +kernel
theorem dL_law_1152 : decode cL_law 1152 = .ok (.iconst 1, 1) := by decide +kernel
theorem dL_law_1153 : decode cL_law 1153 = .ok (.iadd, 1) := by decide +kernel
theorem dL_law_1154 : decode cL_law 1154 = .ok (.iaload, 1) := by decide +kernel
theorem dL_law_1155 : decode cL_law 1155 = .ok (.invokevirtual 134, 3) := by decide +kernel
theorem dL_law_1158 : decode cL_law 1158 = .ok (.if_icmp .eq 515, 3) := by decide +kernel
theorem dL_law_1161 : decode cL_law 1161 = .ok (.iconst 0, 1) := by decide +kernel
theorem dL_law_1162 : decode cL_law 1162 = .ok (.ireturn, 1) := by decide +kernel
theorem dL_law_1163 : decode cL_law 1163 = .ok (.aload_n 1, 1) := by decide +kernel
theorem dL_law_1164 : decode cL_law 1164 = .ok (.aload_n 0, 1) := by decide +kernel
theorem dL_law_1165 : decode cL_law 1165 = .ok (.iload_n 3, 1) := by decide +kernel
theorem dL_law_1166 : decode cL_law 1166 = .ok (.iconst 1, 1) := by decide +kernel
theorem dL_law_1167 : decode cL_law 1167 = .ok (.iadd, 1) := by decide +kernel
theorem dL_law_1168 : decode cL_law 1168 = .ok (.iaload, 1) := by decide +kernel
theorem dL_law_1169 : decode cL_law 1169 = .ok (.invokevirtual 135, 3) := by decide +kernel
theorem dL_law_1172 : decode cL_law 1172 = .ok (.aload_n 2, 1) := by decide +kernel
theorem dL_law_1173 : decode cL_law 1173 = .ok (.aload_n 0, 1) := by decide +kernel
theorem dL_law_1174 : decode cL_law 1174 = .ok (.iload_n 3, 1) := by decide +kernel
theorem dL_law_1175 : decode cL_law 1175 = .ok (.iconst 1, 1) := by decide +kernel
theorem dL_law_1176 : decode cL_law 1176 = .ok (.iadd, 1) := by decide +kernel
theorem dL_law_1177 : decode cL_law 1177 = .ok (.iaload, 1) := by decide +kernel
theorem dL_law_1178 : decode cL_law 1178 = .ok (.invokevirtual 138, 3) := by decide +kernel
theorem dL_law_1181 : decode cL_law 1181 = .ok (.if_icmp .eq 492, 3) := by decide +kernel
theorem dL_law_1184 : decode cL_law 1184 = .ok (.iconst 0, 1) := by decide +kernel
theorem dL_law_1185 : decode cL_law 1185 = .ok (.ireturn, 1) := by decide +kernel
theorem dL_law_1186 : decode cL_law 1186 = .ok (.aload_n 1, 1) := by decide +kernel
theorem dL_law_1187 : decode cL_law 1187 = .ok (.aload_n 0, 1) := by decide +kernel
theorem dL_law_1188 : decode cL_law 1188 = .ok (.iload_n 3, 1) := by decide +kernel
theorem dL_law_1189 : decode cL_law 1189 = .ok (.iconst 1, 1) := by decide +kernel
theorem dL_law_1190 : decode cL_law 1190 = .ok (.iadd, 1) := by decide +kernel
theorem dL_law_1191 : decode cL_law 1191 = .ok (.iaload, 1) := by decide +kernel
theorem dL_law_1192 : decode cL_law 1192 = .ok (.invokevirtual 139, 3) := by decide +kernel
theorem dL_law_1195 : decode cL_law 1195 = .ok (.aload_n 2, 1) := by decide +kernel
theorem dL_law_1196 : decode cL_law 1196 = .ok (.aload_n 0, 1) := by decide +kernel
theorem dL_law_1197 : decode cL_law 1197 = .ok (.iload_n 3, 1) := by decide +kernel
theorem dL_law_1198 : decode cL_law 1198 = .ok (.iconst 1, 1) := by decide +kernel
theorem dL_law_1199 : decode cL_law 1199 = .ok (.iadd, 1) := by decide +kernel
theorem dL_law_1200 : decode cL_law 1200 = .ok (.iaload, 1) := by decide +kernel
theorem dL_law_1201 : decode cL_law 1201 = .ok (.invokevirtual 142, 3) := by decide +kernel
theorem dL_law_1204 : decode cL_law 1204 = .ok (.if_icmp .eq 469, 3) := by decide +kernel
theorem dL_law_1207 : decode cL_law 1207 = .ok (.iconst 0, 1) := by decide +kernel
theorem dL_law_1208 : decode cL_law 1208 = .ok (.ireturn, 1) := by decide +kernel
theorem dL_law_1209 : decode cL_law 1209 = .ok (.aload_n 1, 1) := by decide +kernel
theorem dL_law_1210 : decode cL_law 1210 = .ok (.aload_n 0, 1) := by decide +kernel
theorem dL_law_1211 : decode cL_law 1211 = .ok (.iload_n 3, 1) := by decide +kernel
theorem dL_law_1212 : decode cL_law 1212 = .ok (.iconst 1, 1) := by decide +kernel
theorem dL_law_1213 : decode cL_law 1213 = .ok (.iadd, 1) := by decide +kernel
theorem dL_law_1214 : decode cL_law 1214 = .ok (.iaload, 1) := by decide +kernel
theorem dL_law_1215 : decode cL_law 1215 = .ok (.invokevirtual 143, 3) := by decide +kernel
theorem dL_law_1218 : decode cL_law 1218 = .ok (.aload_n 2, 1) := by decide +kernel
theorem dL_law_1219 : decode cL_law 1219 = .ok (.aload_n 0, 1) := by decide +kernel
theorem dL_law_1220 : decode cL_law 1220 = .ok (.iload_n 3, 1) := by decide +kernel
theorem dL_law_1221 : decode cL_law 1221 = .ok (.iconst 1, 1) := by decide +kernel
theorem dL_law_1222 : decode cL_law 1222 = .ok (.iadd, 1) := by decide +kernel
theorem dL_law_1223 : decode cL_law 1223 = .ok (.iaload, 1) := by decide +kernel
theorem dL_law_1224 : decode cL_law 1224 = .ok (.invokevirtual 146, 3) := by decide +kernel
theorem dL_law_1227 : decode cL_law 1227 = .ok (.if_icmp .eq 446, 3) := by decide +kernel
theorem dL_law_1230 : decode cL_law 1230 = .ok (.iconst 0, 1) := by decide +kernel
theorem dL_law_1231 : decode cL_law 1231 = .ok (.ireturn, 1) := by decide +kernel
theorem dL_law_1232 : decode cL_law 1232 = .ok (.aload_n 1, 1) := by decide +kernel
theorem dL_law_1233 : decode cL_law 1233 = .ok (.aload_n 0, 1) := by decide +kernel
theorem dL_law_1234 : decode cL_law 1234 = .ok (.iload_n 3, 1) := by decide +kernel
theorem dL_law_1235 : decode cL_law 1235 = .ok (.iconst 1, 1) := by decide +kernel
theorem dL_law_1236 : decode cL_law 1236 = .ok (.iadd, 1) := by decide +kernel
theorem dL_law_1237 : decode cL_law 1237 = .ok (.iaload, 1) := by decide +kernel
theorem dL_law_1238 : decode cL_law 1238 = .ok (.aload_n 0, 1) := by decide +kernel
theorem dL_law_1239 : decode cL_law 1239 = .ok (.iload_n 3, 1) := by decide +kernel
theorem dL_law_1240 : decode cL_law 1240 = .ok (.iconst 2, 1) := by decide +kernel
theorem dL_law_1241 : decode cL_law 1241 = .ok (.iadd, 1) := by decide +kernel
theorem dL_law_1242 : decode cL_law 1242 = .ok (.iaload, 1) := by decide +kernel
theorem dL_law_1243 : decode cL_law 1243 = .ok (.aload_n 0, 1) := by decide +kernel
theorem dL_law_1244 : decode cL_law 1244 = .ok (.iload_n 3, 1) := by decide +kernel
theorem dL_law_1245 : decode cL_law 1245 = .ok (.iconst 3, 1) := by decide +kernel
theorem dL_law_1246 : decode cL_law 1246 = .ok (.iadd, 1) := by decide +kernel
theorem dL_law_1247 : decode cL_law 1247 = .ok (.iaload, 1) := by decide +kernel
theorem dL_law_1248 : decode cL_law 1248 = .ok (.invokevirtual 147, 3) := by decide +kernel
theorem dL_law_1251 : decode cL_law 1251 = .ok (.aload_n 2, 1) := by decide +kernel
theorem dL_law_1252 : decode cL_law 1252 = .ok (.aload_n 0, 1) := by decide +kernel
theorem dL_law_1253 : decode cL_law 1253 = .ok (.iload_n 3, 1) := by decide +kernel
theorem dL_law_1254 : decode cL_law 1254 = .ok (.iconst 1, 1) := by decide +kernel
theorem dL_law_1255 : decode cL_law 1255 = .ok (.iadd, 1) := by decide +kernel
theorem dL_law_1256 : decode cL_law 1256 = .ok (.iaload, 1) := by decide +kernel
theorem dL_law_1257 : decode cL_law 1257 = .ok (.aload_n 0, 1) := by decide +kernel
theorem dL_law_1258 : decode cL_law 1258 = .ok (.iload_n 3, 1) := by decide +kernel
theorem dL_law_1259 : decode cL_law 1259 = .ok (.iconst 2, 1) := by decide +kernel
theorem dL_law_1260 : decode cL_law 1260 = .ok (.iadd, 1) := by decide +kernel
theorem dL_law_1261 : decode cL_law 1261 = .ok (.iaload, 1) := by decide +kernel
theorem dL_law_1262 : decode cL_law 1262 = .ok (.aload_n 0, 1) := by decide +kernel
theorem dL_law_1263 : decode cL_law 1263 = .ok (.iload_n 3, 1) := by decide +kernel
theorem dL_law_1264 : decode cL_law 1264 = .ok (.iconst 3, 1) := by decide +kernel
theorem dL_law_1265 : decode cL_law 1265 = .ok (.iadd, 1) := by decide +kernel
theorem dL_law_1266 : decode cL_law 1266 = .ok (.iaload, 1) := by decide +kernel
theorem dL_law_1267 : decode cL_law 1267 = .ok (.invokevirtual 150, 3) := by decide +kernel
theorem dL_law_1270 : decode cL_law 1270 = .ok (.if_icmp .eq 403, 3) := by decide +kernel
theorem dL_law_1273 : decode cL_law 1273 = .ok (.iconst 0, 1) := by decide +kernel
theorem dL_law_1274 : decode cL_law 1274 = .ok (.ireturn, 1) := by decide +kernel
theorem dL_law_1275 : decode cL_law 1275 = .ok (.aload_n 1, 1) := by decide +kernel
theorem dL_law_1276 : decode cL_law 1276 = .ok (.aload_n 0, 1) := by decide +kernel
theorem dL_law_1277 : decode cL_law 1277 = .ok (.iload_n 3, 1) := by decide +kernel
theorem dL_law_1278 : decode cL_law 1278 = .ok (.iconst 1, 1) := by decide +kernel
theorem dL_law_1279 : decode cL_law 1279 = .ok (.iadd, 1) := by decide +kernel
theorem dL_law_1280 : decode cL_law 1280 = .ok (.iaload, 1) := by decide +kernel
theorem dL_law_1281 : decode cL_law 1281 = .ok (.aload_n 0, 1) := by decide +kernel
theorem dL_law_1282 : decode cL_law 1282 = .ok (.iload_n 3, 1) := by decide +kernel
theorem dL_law_1283 : decode cL_law 1283 = .ok (.iconst 2, 1) := by decide +kernel
theorem dL_law_1284 : decode cL_law 1284 = .ok (.iadd, 1) := by decide +kernel
theorem dL_law_1285 : decode cL_law 1285 = .ok (.iaload, 1) := by decide +kernel
theorem dL_law_1286 : decode cL_law 1286 = .ok (.invokevirtual 151, 3) := by decide +kernel
theorem dL_law_1289 : decode cL_law 1289 = .ok (.aload_n 2, 1) := by decide +kernel
theorem dL_law_1290 : decode cL_law 1290 = .ok (.aload_n 0, 1) := by decide +kernel
theorem dL_law_1291 : decode cL_law 1291 = .ok (.iload_n 3, 1) := by decide +kernel
theorem dL_law_1292 : decode cL_law 1292 = .ok (.iconst 1, 1) := by decide +kernel
theorem dL_law_1293 : decode cL_law 1293 = .ok (.iadd, 1) := by decide +kernel
theorem dL_law_1294 : decode cL_law 1294 = .ok (.iaload, 1) := by decide +kernel
theorem dL_law_1295 : decode cL_law 1295 = .ok (.aload_n 0, 1) := by decide +kernel
theorem dL_law_1296 : decode cL_law 1296 = .ok (.iload_n 3, 1) := by decide +kernel
theorem dL_law_1297 : decode cL_law 1297 = .ok (.iconst 2, 1) := by decide +kernel
theorem dL_law_1298 : decode cL_law 1298 = .ok (.iadd, 1) := by decide +kernel
theorem dL_law_1299 : decode cL_law 1299 = .ok (.iaload, 1) := by decide +kernel
theorem dL_law_1300 : decode cL_law 1300 = .ok (.invokevirtual 154, 3) := by decide +kernel
theorem dL_law_1303 : decode cL_law 1303 = .ok (.if_icmp .eq 370, 3) := by decide +kernel
theorem dL_law_1306 : decode cL_law 1306 = .ok (.iconst 0, 1) := by decide +kernel
theorem dL_law_1307 : decode cL_law 1307 = .ok (.ireturn, 1) := by decide +kernel
theorem dL_law_1308 : decode cL_law 1308 = .ok (.aload_n 1, 1) := by decide +kernel
theorem dL_law_1309 : decode cL_law 1309 = .ok (.aload_n 0, 1) := by decide +kernel
theorem dL_law_1310 : decode cL_law 1310 = .ok (.iload_n 3, 1) := by decide +kernel
theorem dL_law_1311 : decode cL_law 1311 = .ok (.iconst 1, 1) := by decide +kernel
theorem dL_law_1312 : decode cL_law 1312 = .ok (.iadd, 1) := by decide +kernel
theorem dL_law_1313 : decode cL_law 1313 = .ok (.iaload, 1) := by decide +kernel
theorem dL_law_1314 : decode cL_law 1314 = .ok (.invokevirtual 155, 3) := by decide +kernel
theorem dL_law_1317 : decode cL_law 1317 = .ok (.aload_n 2, 1) := by decide +kernel
theorem dL_law_1318 : decode cL_law 1318 = .ok (.aload_n 0, 1) := by decide +kernel
theorem dL_law_1319 : decode cL_law 1319 = .ok (.iload_n 3, 1) := by decide +kernel
theorem dL_law_1320 : decode cL_law 1320 = .ok (.iconst 1, 1) := by decide +kernel
theorem dL_law_1321 : decode cL_law 1321 = .ok (.iadd, 1) := by decide +kernel
theorem dL_law_1322 : decode cL_law 1322 = .ok (.iaload, 1) := by decide +kernel
theorem dL_law_1323 : decode cL_law 1323 = .ok (.invokevirtual 158, 3) := by decide +kernel
theorem dL_law_1326 : decode cL_law 1326 = .ok (.if_icmp .eq 347, 3) := by decide +kernel
theorem dL_law_1329 : decode cL_law 1329 = .ok (.iconst 0, 1) := by decide +kernel
theorem dL_law_1330 : decode cL_law 1330 = .ok (.ireturn, 1) := by decide +kernel
theorem dL_law_1331 : decode cL_law 1331 = .ok (.aload_n 1, 1) := by decide +kernel
theorem dL_law_1332 : decode cL_law 1332 = .ok (.aload_n 0, 1) := by decide +kernel
theorem dL_law_1333 : decode cL_law 1333 = .ok (.iload_n 3, 1) := by decide +kernel
theorem dL_law_1334 : decode cL_law 1334 = .ok (.iconst 1, 1) := by decide +kernel
theorem dL_law_1335 : decode cL_law 1335 = .ok (.iadd, 1) := by decide +kernel
theorem dL_law_1336 : decode cL_law 1336 = .ok (.iaload, 1) := by decide +kernel
theorem dL_law_1337 : decode cL_law 1337 = .ok (.aload_n 0, 1) := by decide +kernel
theorem dL_law_1338 : decode cL_law 1338 = .ok (.iload_n 3, 1) := by decide +kernel
theorem dL_law_1339 : decode cL_law 1339 = .ok (.iconst 2, 1) := by decide +kernel
theorem dL_law_1340 : decode cL_law 1340 = .ok (.iadd, 1) := by decide +kernel
theorem dL_law_1341 : decode cL_law 1341 = .ok (.iaload, 1) := by decide +kernel
theorem dL_law_1342 : decode cL_law 1342 = .ok (.invokevirtual 159, 3) := by decide +kernel
theorem dL_law_1345 : decode cL_law 1345 = .ok (.aload_n 2, 1) := by decide +kernel
theorem dL_law_1346 : decode cL_law 1346 = .ok (.aload_n 0, 1) := by decide +kernel
theorem dL_law_1347 : decode cL_law 1347 = .ok (.iload_n 3, 1) := by decide +kernel
theorem dL_law_1348 : decode cL_law 1348 = .ok (.iconst 1, 1) := by decide +kernel
theorem dL_law_1349 : decode cL_law 1349 = .ok (.iadd, 1) := by decide +kernel
theorem dL_law_1350 : decode cL_law 1350 = .ok (.iaload, 1) := by decide +kernel
theorem dL_law_1351 : decode cL_law 1351 = .ok (.aload_n 0, 1) := by decide +kernel
theorem dL_law_1352 : decode cL_law 1352 = .ok (.iload_n 3, 1) := by decide +kernel
theorem dL_law_1353 : decode cL_law 1353 = .ok (.iconst 2, 1) := by decide +kernel
theorem dL_law_1354 : decode cL_law 1354 = .ok (.iadd, 1) := by decide +kernel
theorem dL_law_1355 : decode cL_law 1355 = .ok (.iaload, 1) := by decide +kernel
theorem dL_law_1356 : decode cL_law 1356 = .ok (.invokevirtual 162, 3) := by decide +kernel
theorem dL_law_1359 : decode cL_law 1359 = .ok (.if_icmp .eq 314, 3) := by decide +kernel
theorem dL_law_1362 : decode cL_law 1362 = .ok (.iconst 0, 1) := by decide +kernel
theorem dL_law_1363 : decode cL_law 1363 = .ok (.ireturn, 1) := by decide +kernel
theorem dL_law_1364 : decode cL_law 1364 = .ok (.aload_n 1, 1) := by decide +kernel
theorem dL_law_1365 : decode cL_law 1365 = .ok (.aload_n 0, 1) := by decide +kernel
theorem dL_law_1366 : decode cL_law 1366 = .ok (.iload_n 3, 1) := by decide +kernel
theorem dL_law_1367 : decode cL_law 1367 = .ok (.iconst 1, 1) := by decide +kernel
theorem dL_law_1368 : decode cL_law 1368 = .ok (.iadd, 1) := by decide +kernel
theorem dL_law_1369 : decode cL_law 1369 = .ok (.iaload, 1) := by decide +kernel
theorem dL_law_1370 : decode cL_law 1370 = .ok (.aload_n 0, 1) := by decide +kernel
theorem dL_law_1371 : decode cL_law 1371 = .ok (.iload_n 3, 1) := by decide +kernel
theorem dL_law_1372 : decode cL_law 1372 = .ok (.iconst 2, 1) := by decide +kernel
theorem dL_law_1373 : decode cL_law 1373 = .ok (.iadd, 1) := by decide +kernel
theorem dL_law_1374 : decode cL_law 1374 = .ok (.iaload, 1) := by decide +kernel
theorem dL_law_1375 : decode cL_law 1375 = .ok (.invokevirtual 163, 3) := by decide +kernel
theorem dL_law_1378 : decode cL_law 1378 = .ok (.aload_n 2, 1) := by decide +kernel
theorem dL_law_1379 : decode cL_law 1379 = .ok (.aload_n 0, 1) := by decide +kernel
theorem dL_law_1380 : decode cL_law 1380 = .ok (.iload_n 3, 1) := by decide +kernel
theorem dL_law_1381 : decode cL_law 1381 = .ok (.iconst 1, 1) := by decide +kernel
theorem dL_law_1382 : decode cL_law 1382 = .ok (.iadd, 1) := by decide +kernel
theorem dL_law_1383 : decode cL_law 1383 = .ok (.iaload, 1) := by decide +kernel
theorem dL_law_1384 : decode cL_law 1384 = .ok (.aload_n 0, 1) := by decide +kernel
theorem dL_law_1385 : decode cL_law 1385 = .ok (.iload_n 3, 1) := by decide +kernel
theorem dL_law_1386 : decode cL_law 1386 = .ok (.iconst 2, 1) := by decide +kernel
theorem dL_law_1387 : decode cL_law 1387 = .ok (.iadd, 1) := by decide +kernel
theorem dL_law_1388 : decode cL_law 1388 = .ok (.iaload, 1) := by decide +kernel
theorem dL_law_1389 : decode cL_law 1389 = .ok (.invokevirtual 166, 3) := by decide +kernel
theorem dL_law_1392 : decode cL_law 1392 = .ok (.if_icmp .eq 281, 3) := by decide +kernel
theorem dL_law_1395 : decode cL_law 1395 = .ok (.iconst 0, 1) := by decide +kernel
theorem dL_law_1396 : decode cL_law 1396 = .ok (.ireturn, 1) := by decide +kernel
theorem dL_law_1397 : decode cL_law 1397 = .ok (.aload_n 1, 1) := by decide +kernel
theorem dL_law_1398 : decode cL_law 1398 = .ok (.aload_n 0, 1) := by decide +kernel
theorem dL_law_1399 : decode cL_law 1399 = .ok (.iload_n 3, 1) := by decide +kernel
theorem dL_law_1400 : decode cL_law 1400 = .ok (.iconst 1, 1) := by decide +kernel
theorem dL_law_1401 : decode cL_law 1401 = .ok (.iadd, 1) := by decide +kernel
theorem dL_law_1402 : decode cL_law 1402 = .ok (.iaload, 1) := by decide +kernel
theorem dL_law_1403 : decode cL_law 1403 = .ok (.aload_n 0, 1) := by decide +kernel
theorem dL_law_1404 : decode cL_law 1404 = .ok (.iload_n 3, 1) := by decide +kernel
theorem dL_law_1405 : decode cL_law 1405 = .ok (.iconst 2, 1) := by decide +kernel
theorem dL_law_1406 : decode cL_law 1406 = .ok (.iadd, 1) := by decide +kernel
theorem dL_law_1407 : decode cL_law 1407 = .ok (.iaload, 1) := by decide +kernel
theorem dL_law_1408 : decode cL_law 1408 = .ok (.invokevirtual 167, 3) := by decide +kernel
theorem dL_law_1411 : decode cL_law 1411 = .ok (.aload_n 2, 1) := by decide +kernel
theorem dL_law_1412 : decode cL_law 1412 = .ok (.aload_n 0, 1) := by decide +kernel
theorem dL_law_1413 : decode cL_law 1413 = .ok (.iload_n 3, 1) := by decide +kernel
theorem dL_law_1414 : decode cL_law 1414 = .ok (.iconst 1, 1) := by decide +kernel
theorem dL_law_1415 : decode cL_law 1415 = .ok (.iadd, 1) := by decide +kernel
theorem dL_law_1416 : decode cL_law 1416 = .ok (.iaload, 1) := by decide +kernel
theorem dL_law_1417 : decode cL_law 1417 = .ok (.aload_n 0, 1) := by decide +kernel
theorem dL_law_1418 : decode cL_law 1418 = .ok (.iload_n 3, 1) := by decide +kernel
theorem dL_law_1419 : decode cL_law 1419 = .ok (.iconst 2, 1) := by decide +kernel
theorem dL_law_1420 : decode cL_law 1420 = .ok (.iadd, 1) := by decide +kernel
theorem dL_law_1421 : decode cL_law 1421 = .ok (.iaload, 1) := by decide +kernel
theorem dL_law_1422 : decode cL_law 1422 = .ok (.invokevirtual 170, 3) := by decide +kernel
theorem dL_law_1425 : decode cL_law 1425 = .ok (.if_icmp .eq 248, 3) := by decide +kernel
theorem dL_law_1428 : decode cL_law 1428 = .ok (.iconst 0, 1) := by decide +kernel
theorem dL_law_1429 : decode cL_law 1429 = .ok (.ireturn, 1) := by decide +kernel
theorem dL_law_1430 : decode cL_law 1430 = .ok (.aload_n 1, 1) := by decide +kernel
theorem dL_law_1431 : decode cL_law 1431 = .ok (.aload_n 0, 1) := by decide +kernel
theorem dL_law_1432 : decode cL_law 1432 = .ok (.iload_n 3, 1) := by decide +kernel
theorem dL_law_1433 : decode cL_law 1433 = .ok (.iconst 1, 1) := by decide +kernel
theorem dL_law_1434 : decode cL_law 1434 = .ok (.iadd, 1) := by decide +kernel
theorem dL_law_1435 : decode cL_law 1435 = .ok (.iaload, 1) := by decide +kernel
theorem dL_law_1436 : decode cL_law 1436 = .ok (.aload_n 0, 1) := by decide +kernel
theorem dL_law_1437 : decode cL_law 1437 = .ok (.iload_n 3, 1) := by decide +kernel
theorem dL_law_1438 : decode cL_law 1438 = .ok (.iconst 2, 1) := by decide +kernel
theorem dL_law_1439 : decode cL_law 1439 = .ok (.iadd, 1) := by decide +kernel
theorem dL_law_1440 : decode cL_law 1440 = .ok (.iaload, 1) := by decide +kernel
theorem dL_law_1441 : decode cL_law 1441 = .ok (.invokevirtual 171, 3) := by decide +kernel
theorem dL_law_1444 : decode cL_law 1444 = .ok (.aload_n 2, 1) := by decide +kernel
theorem dL_law_1445 : decode cL_law 1445 = .ok (.aload_n 0, 1) := by decide +kernel
theorem dL_law_1446 : decode cL_law 1446 = .ok (.iload_n 3, 1) := by decide +kernel
theorem dL_law_1447 : decode cL_law 1447 = .ok (.iconst 1, 1) := by decide +kernel
theorem dL_law_1448 : decode cL_law 1448 = .ok (.iadd, 1) := by decide +kernel
theorem dL_law_1449 : decode cL_law 1449 = .ok (.iaload, 1) := by decide +kernel
theorem dL_law_1450 : decode cL_law 1450 = .ok (.aload_n 0, 1) := by decide +kernel
theorem dL_law_1451 : decode cL_law 1451 = .ok (.iload_n 3, 1) := by decide +kernel
theorem dL_law_1452 : decode cL_law 1452 = .ok (.iconst 2, 1) := by decide +kernel
theorem dL_law_1453 : decode cL_law 1453 = .ok (.iadd, 1) := by decide +kernel
theorem dL_law_1454 : decode cL_law 1454 = .ok (.iaload, 1) := by decide +kernel
theorem dL_law_1455 : decode cL_law 1455 = .ok (.invokevirtual 174, 3) := by decide +kernel
theorem dL_law_1458 : decode cL_law 1458 = .ok (.if_icmp .eq 215, 3) := by decide +kernel
theorem dL_law_1461 : decode cL_law 1461 = .ok (.iconst 0, 1) := by decide +kernel
theorem dL_law_1462 : decode cL_law 1462 = .ok (.ireturn, 1) := by decide +kernel
theorem dL_law_1463 : decode cL_law 1463 = .ok (.aload_n 1, 1) := by decide +kernel
theorem dL_law_1464 : decode cL_law 1464 = .ok (.aload_n 0, 1) := by decide +kernel
theorem dL_law_1465 : decode cL_law 1465 = .ok (.iload_n 3, 1) := by decide +kernel
theorem dL_law_1466 : decode cL_law 1466 = .ok (.iconst 1, 1) := by decide +kernel
theorem dL_law_1467 : decode cL_law 1467 = .ok (.iadd, 1) := by decide +kernel
theorem dL_law_1468 : decode cL_law 1468 = .ok (.iaload, 1) := by decide +kernel
theorem dL_law_1469 : decode cL_law 1469 = .ok (.invokevirtual 175, 3) := by decide +kernel
theorem dL_law_1472 : decode cL_law 1472 = .ok (.aload_n 2, 1) := by decide +kernel
theorem dL_law_1473 : decode cL_law 1473 = .ok (.aload_n 0, 1) := by decide +kernel
theorem dL_law_1474 : decode cL_law 1474 = .ok (.iload_n 3, 1) := by decide +kernel
theorem dL_law_1475 : decode cL_law 1475 = .ok (.iconst 1, 1) := by decide +kernel
theorem dL_law_1476 : decode cL_law 1476 = .ok (.iadd, 1) := by decide +kernel
theorem dL_law_1477 : decode cL_law 1477 = .ok (.iaload, 1) := by decide +kernel
theorem dL_law_1478 : decode cL_law 1478 = .ok (.invokevirtual 178, 3) := by decide +kernel
theorem dL_law_1481 : decode cL_law 1481 = .ok (.if_icmp .eq 192, 3) := by decide +kernel
theorem dL_law_1484 : decode cL_law 1484 = .ok (.iconst 0, 1) := by decide +kernel
theorem dL_law_1485 : decode cL_law 1485 = .ok (.ireturn, 1) := by decide +kernel
theorem dL_law_1486 : decode cL_law 1486 = .ok (.aload_n 1, 1) := by decide +kernel
theorem dL_law_1487 : decode cL_law 1487 = .ok (.aload_n 0, 1) := by decide +kernel
theorem dL_law_1488 : decode cL_law 1488 = .ok (.iload_n 3, 1) := by decide +kernel
theorem dL_law_1489 : decode cL_law 1489 = .ok (.iconst 1, 1) := by decide +kernel
theorem dL_law_1490 : decode cL_law 1490 = .ok (.iadd, 1) := by decide +kernel
theorem dL_law_1491 : decode cL_law 1491 = .ok (.iaload, 1) := by decide +kernel
theorem dL_law_1492 : decode cL_law 1492 = .ok (.invokevirtual 179, 3) := by decide +kernel
theorem dL_law_1495 : decode cL_law 1495 = .ok (.aload_n 2, 1) := by decide +kernel
theorem dL_law_1496 : decode cL_law 1496 = .ok (.aload_n 0, 1) := by decide +kernel
theorem dL_law_1497 : decode cL_law 1497 = .ok (.iload_n 3, 1) := by decide +kernel
theorem dL_law_1498 : decode cL_law 1498 = .ok (.iconst 1, 1) := by decide +kernel
theorem dL_law_1499 : decode cL_law 1499 = .ok (.iadd, 1) := by decide +kernel
theorem dL_law_1500 : decode cL_law 1500 = .ok (.iaload, 1) := by decide +kernel
theorem dL_law_1501 : decode cL_law 1501 = .ok (.invokevirtual 182, 3) := by decide +kernel
theorem dL_law_1504 : decode cL_law 1504 = .ok (.if_icmp .eq 169, 3) := by decide +kernel
theorem dL_law_1507 : decode cL_law 1507 = .ok (.iconst 0, 1) := by decide +kernel
theorem dL_law_1508 : decode cL_law 1508 = .ok (.ireturn, 1) := by decide +kernel
theorem dL_law_1509 : decode cL_law 1509 = .ok (.aload_n 1, 1) := by decide +kernel
theorem dL_law_1510 : decode cL_law 1510 = .ok (.invokevirtual 183, 3) := by decide +kernel
theorem dL_law_1513 : decode cL_law 1513 = .ok (.aload_n 2, 1) := by decide +kernel
theorem dL_law_1514 : decode cL_law 1514 = .ok (.invokevirtual 186, 3) := by decide +kernel
theorem dL_law_1517 : decode cL_law 1517 = .ok (.if_icmp .eq 156, 3) := by decide +kernel
theorem dL_law_1520 : decode cL_law 1520 = .ok (.iconst 0, 1) := by decide +kernel
theorem dL_law_1521 : decode cL_law 1521 = .ok (.ireturn, 1) := by decide +kernel
theorem dL_law_1522 : decode cL_law 1522 = .ok (.aload_n 1, 1) := by decide +kernel
theorem dL_law_1523 : decode cL_law 1523 = .ok (.aload_n 0, 1) := by decide +kernel
theorem dL_law_1524 : decode cL_law 1524 = .ok (.iload_n 3, 1) := by decide +kernel
theorem dL_law_1525 : decode cL_law 1525 = .ok (.iconst 1, 1) := by decide +kernel
theorem dL_law_1526 : decode cL_law 1526 = .ok (.iadd, 1) := by decide +kernel
theorem dL_law_1527 : decode cL_law 1527 = .ok (.iaload, 1) := by decide +kernel
theorem dL_law_1528 : decode cL_law 1528 = .ok (.invokevirtual 187, 3) := by decide +kernel
theorem dL_law_1531 : decode cL_law 1531 = .ok (.aload_n 2, 1) := by decide +kernel
theorem dL_law_1532 : decode cL_law 1532 = .ok (.aload_n 0, 1) := by decide +kernel
theorem dL_law_1533 : decode cL_law 1533 = .ok (.iload_n 3, 1) := by decide +kernel
theorem dL_law_1534 : decode cL_law 1534 = .ok (.iconst 1, 1) := by decide +kernel
theorem dL_law_1535 : decode cL_law 1535 = .ok (.iadd, 1) := by decide +kernel
theorem dL_law_1536 : decode cL_law 1536 = .ok (.iaload, 1) := by decide +kernel
theorem dL_law_1537 : decode cL_law 1537 = .ok (.invokevirtual 190, 3) := by decide +kernel
theorem dL_law_1540 : decode cL_law 1540 = .ok (.if_icmp .eq 133, 3) := by decide +kernel
theorem dL_law_1543 : decode cL_law 1543 = .ok (.iconst 0, 1) := by decide +kernel
theorem dL_law_1544 : decode cL_law 1544 = .ok (.ireturn, 1) := by decide +kernel
theorem dL_law_1545 : decode cL_law 1545 = .ok (.aload_n 1, 1) := by decide +kernel
theorem dL_law_1546 : decode cL_law 1546 = .ok (.aload_n 0, 1) := by decide +kernel
theorem dL_law_1547 : decode cL_law 1547 = .ok (.iload_n 3, 1) := by decide +kernel
theorem dL_law_1548 : decode cL_law 1548 = .ok (.iconst 1, 1) := by decide +kernel
theorem dL_law_1549 : decode cL_law 1549 = .ok (.iadd, 1) := by decide +kernel
theorem dL_law_1550 : decode cL_law 1550 = .ok (.iaload, 1) := by decide +kernel
theorem dL_law_1551 : decode cL_law 1551 = .ok (.invokevirtual 191, 3) := by decide +kernel
theorem dL_law_1554 : decode cL_law 1554 = .ok (.aload_n 2, 1) := by decide +kernel
theorem dL_law_1555 : decode cL_law 1555 = .ok (.aload_n 0, 1) := by decide +kernel
theorem dL_law_1556 : decode cL_law 1556 = .ok (.iload_n 3, 1) := by decide +kernel
theorem dL_law_1557 : decode cL_law 1557 = .ok (.iconst 1, 1) := by decide +kernel
theorem dL_law_1558 : decode cL_law 1558 = .ok (.iadd, 1) := by decide +kernel
theorem dL_law_1559 : decode cL_law 1559 = .ok (.iaload, 1) := by decide +kernel
theorem dL_law_1560 : decode cL_law 1560 = .ok (.invokevirtual 194, 3) := by decide +kernel
theorem dL_law_1563 : decode cL_law 1563 = .ok (.if_icmp .eq 110, 3) := by decide +kernel
theorem dL_law_1566 : decode cL_law 1566 = .ok (.iconst 0, 1) := by decide +kernel
theorem dL_law_1567 : decode cL_law 1567 = .ok (.ireturn, 1) := by decide +kernel
theorem dL_law_1568 : decode cL_law 1568 = .ok (.aload_n 1, 1) := by decide +kernel
theorem dL_law_1569 : decode cL_law 1569 = .ok (.invokevirtual 195, 3) := by decide +kernel
theorem dL_law_1572 : decode cL_law 1572 = .ok (.aload_n 2, 1) := by decide +kernel
theorem dL_law_1573 : decode cL_law 1573 = .ok (.invokevirtual 198, 3) := by decide +kernel
theorem dL_law_1576 : decode cL_law 1576 = .ok (.if_icmp .eq 97, 3) := by decide +kernel
theorem dL_law_1579 : decode cL_law 1579 = .ok (.iconst 0, 1) := by decide +kernel
theorem dL_law_1580 : decode cL_law 1580 = .ok (.ireturn, 1) := by decide +kernel
theorem dL_law_1581 : decode cL_law 1581 = .ok (.aload_n 1, 1) := by decide +kernel
theorem dL_law_1582 : decode cL_law 1582 = .ok (.aload_n 0, 1) := by decide +kernel
theorem dL_law_1583 : decode cL_law 1583 = .ok (.iload_n 3, 1) := by decide +kernel
theorem dL_law_1584 : decode cL_law 1584 = .ok (.iconst 1, 1) := by decide +kernel
theorem dL_law_1585 : decode cL_law 1585 = .ok (.iadd, 1) := by decide +kernel
theorem dL_law_1586 : decode cL_law 1586 = .ok (.iaload, 1) := by decide +kernel
theorem dL_law_1587 : decode cL_law 1587 = .ok (.aload_n 0, 1) := by decide +kernel
theorem dL_law_1588 : decode cL_law 1588 = .ok (.iload_n 3, 1) := by decide +kernel
theorem dL_law_1589 : decode cL_law 1589 = .ok (.iconst 2, 1) := by decide +kernel
theorem dL_law_1590 : decode cL_law 1590 = .ok (.iadd, 1) := by decide +kernel
theorem dL_law_1591 : decode cL_law 1591 = .ok (.iaload, 1) := by decide +kernel
theorem dL_law_1592 : decode cL_law 1592 = .ok (.aload_n 0, 1) := by decide +kernel
theorem dL_law_1593 : decode cL_law 1593 = .ok (.iload_n 3, 1) := by decide +kernel
theorem dL_law_1594 : decode cL_law 1594 = .ok (.iconst 3, 1) := by decide +kernel
theorem dL_law_1595 : decode cL_law 1595 = .ok (.iadd, 1) := by decide +kernel
theorem dL_law_1596 : decode cL_law 1596 = .ok (.iaload, 1) := by decide +kernel
theorem dL_law_1597 : decode cL_law 1597 = .ok (.invokevirtual 199, 3) := by decide +kernel
theorem dL_law_1600 : decode cL_law 1600 = .ok (.aload_n 2, 1) := by decide +kernel
theorem dL_law_1601 : decode cL_law 1601 = .ok (.aload_n 0, 1) := by decide +kernel
theorem dL_law_1602 : decode cL_law 1602 = .ok (.iload_n 3, 1) := by decide +kernel
theorem dL_law_1603 : decode cL_law 1603 = .ok (.iconst 1, 1) := by decide +kernel
theorem dL_law_1604 : decode cL_law 1604 = .ok (.iadd, 1) := by decide +kernel
theorem dL_law_1605 : decode cL_law 1605 = .ok (.iaload, 1) := by decide +kernel
theorem dL_law_1606 : decode cL_law 1606 = .ok (.aload_n 0, 1) := by decide +kernel
theorem dL_law_1607 : decode cL_law 1607 = .ok (.iload_n 3, 1) := by decide +kernel
theorem dL_law_1608 : decode cL_law 1608 = .ok (.iconst 2, 1) := by decide +kernel
theorem dL_law_1609 : decode cL_law 1609 = .ok (.iadd, 1) := by decide +kernel
theorem dL_law_1610 : decode cL_law 1610 = .ok (.iaload, 1) := by decide +kernel
theorem dL_law_1611 : decode cL_law 1611 = .ok (.aload_n 0, 1) := by decide +kernel
theorem dL_law_1612 : decode cL_law 1612 = .ok (.iload_n 3, 1) := by decide +kernel
theorem dL_law_1613 : decode cL_law 1613 = .ok (.iconst 3, 1) := by decide +kernel
theorem dL_law_1614 : decode cL_law 1614 = .ok (.iadd, 1) := by decide +kernel
theorem dL_law_1615 : decode cL_law 1615 = .ok (.iaload, 1) := by decide +kernel
theorem dL_law_1616 : decode cL_law 1616 = .ok (.invokevirtual 202, 3) := by decide +kernel
theorem dL_law_1619 : decode cL_law 1619 = .ok (.if_icmp .eq 54, 3) := by decide +kernel
theorem dL_law_1622 : decode cL_law 1622 = .ok (.iconst 0, 1) := by decide +kernel
theorem dL_law_1623 : decode cL_law 1623 = .ok (.ireturn, 1) := by decide +kernel
theorem dL_law_1624 : decode cL_law 1624 = .ok (.aload_n 1, 1) := by decide +kernel
theorem dL_law_1625 : decode cL_law 1625 = .ok (.invokevirtual 203, 3) := by decide +kernel
theorem dL_law_1628 : decode cL_law 1628 = .ok (.aload_n 2, 1) := by decide +kernel
theorem dL_law_1629 : decode cL_law 1629 = .ok (.invokevirtual 206, 3) := by decide +kernel
theorem dL_law_1632 : decode cL_law 1632 = .ok (.if_icmp .eq 41, 3) := by decide +kernel
theorem dL_law_1635 : decode cL_law 1635 = .ok (.iconst 0, 1) := by decide +kernel
theorem dL_law_1636 : decode cL_law 1636 = .ok (.ireturn, 1) := by decide +kernel
theorem dL_law_1637 : decode cL_law 1637 = .ok (.aload_n 1, 1) := by decide +kernel
theorem dL_law_1638 : decode cL_law 1638 = .ok (.invokevirtual 207, 3) := by decide +kernel
theorem dL_law_1641 : decode cL_law 1641 = .ok (.aload_n 2, 1) := by decide +kernel
theorem dL_law_1642 : decode cL_law 1642 = .ok (.invokevirtual 210, 3) := by decide +kernel
theorem dL_law_1645 : decode cL_law 1645 = .ok (.if_icmp .eq 28, 3) := by decide +kernel
theorem dL_law_1648 : decode cL_law 1648 = .ok (.iconst 0, 1) := by decide +kernel
theorem dL_law_1649 : decode cL_law 1649 = .ok (.ireturn, 1) := by decide +kernel
theorem dL_law_1650 : decode cL_law 1650 = .ok (.aload_n 1, 1) := by decide +kernel
theorem dL_law_1651 : decode cL_law 1651 = .ok (.aload_n 0, 1) := by decide +kernel
theorem dL_law_1652 : decode cL_law 1652 = .ok (.iload_n 3, 1) := by decide +kernel
theorem dL_law_1653 : decode cL_law 1653 = .ok (.iconst 1, 1) := by decide +kernel
theorem dL_law_1654 : decode cL_law 1654 = .ok (.iadd, 1) := by decide +kernel
theorem dL_law_1655 : decode cL_law 1655 = .ok (.iaload, 1) := by decide +kernel
theorem dL_law_1656 : decode cL_law 1656 = .ok (.invokevirtual 211, 3) := by decide +kernel
theorem dL_law_1659 : decode cL_law 1659 = .ok (.aload_n 2, 1) := by decide +kernel
theorem dL_law_1660 : decode cL_law 1660 = .ok (.aload_n 0, 1) := by decide +kernel
theorem dL_law_1661 : decode cL_law 1661 = .ok (.iload_n 3, 1) := by decide +kernel
theorem dL_law_1662 : decode cL_law 1662 = .ok (.iconst 1, 1) := by decide +kernel
theorem dL_law_1663 : decode cL_law 1663 = .ok (.iadd, 1) := by decide +kernel
theorem dL_law_1664 : decode cL_law 1664 = .ok (.iaload, 1) := by decide +kernel
theorem dL_law_1665 : decode cL_law 1665 = .ok (.invokevirtual 214, 3) := by decide +kernel
theorem dL_law_1668 : decode cL_law 1668 = .ok (.if_icmp .eq 5, 3) := by decide +kernel
theorem dL_law_1671 : decode cL_law 1671 = .ok (.iconst 0, 1) := by decide +kernel
theorem dL_law_1672 : decode cL_law 1672 = .ok (.ireturn, 1) := by decide +kernel
theorem dL_law_1673 : decode cL_law 1673 = .ok (.iinc 3 6, 3) := by decide +kernel
theorem dL_law_1676 : decode cL_law 1676 = .ok (.goto (-1658), 3) := by decide +kernel
theorem dL_law_1679 : decode cL_law 1679 = .ok (.iconst 1, 1) := by decide +kernel
theorem dL_law_1680 : decode cL_law 1680 = .ok (.ireturn, 1) := by decide +kernel
