theorem dX10_births_119 : decode cX10_births 119 = .ok (.lload 9, 2) := by decide +kernel
theorem dX10_births_121 : decode cX10_births 121 = .ok (.lload 12, 2) := by decide +kernel
theorem dX10_births_123 : decode cX10_births 123 = .ok (.ladd, 1) := by decide +kernel
theorem dX10_births_124 : decode cX10_births 124 = .ok (.lstore 9, 2) := by decide +kernel
theorem dX10_births_126 : decode cX10_births 126 = .ok (.aload_n 0, 1) := by decide +kernel
theorem dX10_births_127 : decode cX10_births 127 = .ok (.iload_n 1, 1) := by decide +kernel
theorem dX10_births_128 : decode cX10_births 128 = .ok (.iload 11, 2) := by decide +kernel
theorem dX10_births_130 : decode cX10_births 130 = .ok (.iload_n 2, 1) := by decide +kernel
theorem dX10_births_131 : decode cX10_births 131 = .ok (.invokevirtual 295, 3) := by decide +kernel
theorem dX10_births_134 : decode cX10_births 134 = .ok (.aload_n 0, 1) := by decide +kernel
theorem dX10_births_135 : decode cX10_births 135 = .ok (.getfield 46, 3) := by decide +kernel
theorem dX10_births_138 : decode cX10_births 138 = .ok (.invokevirtual 122, 3) := by decide +kernel
theorem dX10_births_141 : decode cX10_births 141 = .ok (.iload_n 3, 1) := by decide +kernel
theorem dX10_births_142 : decode cX10_births 142 = .ok (.if_icmp .gt 10, 3) := by decide +kernel
theorem dX10_births_145 : decode cX10_births 145 = .ok (.lload 7, 2) := by decide +kernel
theorem dX10_births_147 : decode cX10_births 147 = .ok (.lload 12, 2) := by decide +kernel
theorem dX10_births_149 : decode cX10_births 149 = .ok (.ladd, 1) := by decide +kernel
theorem dX10_births_150 : decode cX10_births 150 = .ok (.lstore 7, 2) := by decide +kernel
theorem dX10_births_152 : decode cX10_births 152 = .ok (.iinc 11 1, 3) := by decide +kernel
theorem dX10_births_155 : decode cX10_births 155 = .ok (.goto (-54), 3) := by decide +kernel
theorem dX10_births_158 : decode cX10_births 158 = .ok (.lload 7, 2) := by decide +kernel
theorem dX10_births_160 : decode cX10_births 160 = .ok (.lload 9, 2) := by decide +kernel
theorem dX10_births_162 : decode cX10_births 162 = .ok (.iload 5, 2) := by decide +kernel
theorem dX10_births_164 : decode cX10_births 164 = .ok (.invokestatic 263, 3) := by decide +kernel
theorem dX10_births_167 : decode cX10_births 167 = .ok (.lreturn, 1) := by decide +kernel
theorem dX10_back_0 : decode cX10_back 0 = .ok (.aload_n 0, 1) := by decide +kernel
theorem dX10_back_1 : decode cX10_back 1 = .ok (.getfield 25, 3) := by decide +kernel
theorem dX10_back_4 : decode cX10_back 4 = .ok (.getfield 298, 3) := by decide +kernel
theorem dX10_back_7 : decode cX10_back 7 = .ok (.ifCond .ne 10, 3) := by decide +kernel
theorem dX10_back_10 : decode cX10_back 10 = .ok (.aload_n 0, 1) := by decide +kernel
theorem dX10_back_11 : decode cX10_back 11 = .ok (.bipush (-3), 2) := by decide +kernel
theorem dX10_back_13 : decode cX10_back 13 = .ok (.invokevirtual 67, 3) := by decide +kernel
theorem dX10_back_16 : decode cX10_back 16 = .ok (.ireturn, 1) := by decide +kernel
theorem dX10_back_17 : decode cX10_back 17 = .ok (.aload_n 0, 1) := by decide +kernel
theorem dX10_back_18 : decode cX10_back 18 = .ok (.getfield 25, 3) := by decide +kernel
theorem dX10_back_21 : decode cX10_back 21 = .ok (.aload_n 0, 1) := by decide +kernel
theorem dX10_back_22 : decode cX10_back 22 = .ok (.getfield 10, 3) := by decide +kernel
theorem dX10_back_25 : decode cX10_back 25 = .ok (.invokevirtual 299, 3) := by decide +kernel
theorem dX10_back_28 : decode cX10_back 28 = .ok (.aload_n 0, 1) := by decide +kernel
theorem dX10_back_29 : decode cX10_back 29 = .ok (.getfield 25, 3) := by decide +kernel
theorem dX10_back_32 : decode cX10_back 32 = .ok (.getfield 298, 3) := by decide +kernel
theorem dX10_back_35 : decode cX10_back 35 = .ok (.ireturn, 1) := by decide +kernel
theorem dX10_oldest_0 : decode cX10_oldest 0 = .ok (.iload_n 1, 1) := by decide +kernel
theorem dX10_oldest_1 : decode cX10_oldest 1 = .ok (.iconst 1, 1) := by decide +kernel
theorem dX10_oldest_2 : decode cX10_oldest 2 = .ok (.invokestatic 102, 3) := by decide +kernel
theorem dX10_oldest_5 : decode cX10_oldest 5 = .ok (.ifCond .eq 10, 3) := by decide +kernel
theorem dX10_oldest_8 : decode cX10_oldest 8 = .ok (.aload_n 0, 1) := by decide +kernel
theorem dX10_oldest_9 : decode cX10_oldest 9 = .ok (.bipush (-2), 2) := by decide +kernel
theorem dX10_oldest_11 : decode cX10_oldest 11 = .ok (.invokevirtual 67, 3) := by decide +kernel
theorem dX10_oldest_14 : decode cX10_oldest 14 = .ok (.ireturn, 1) := by decide +kernel
theorem dX10_oldest_15 : decode cX10_oldest 15 = .ok (.aload_n 0, 1) := by decide +kernel
theorem dX10_oldest_16 : decode cX10_oldest 16 = .ok (.getfield 10, 3) := by decide +kernel
theorem dX10_oldest_19 : decode cX10_oldest 19 = .ok (.iload_n 1, 1) := by decide +kernel
theorem dX10_oldest_20 : decode cX10_oldest 20 = .ok (.ifCond .ne 7, 3) := by decide +kernel
theorem dX10_oldest_23 : decode cX10_oldest 23 = .ok (.iconst 0, 1) := by decide +kernel
theorem dX10_oldest_24 : decode cX10_oldest 24 = .ok (.goto 12, 3) := by decide +kernel
theorem dX10_oldest_27 : decode cX10_oldest 27 = .ok (.aload_n 0, 1) := by decide +kernel
theorem dX10_oldest_28 : decode cX10_oldest 28 = .ok (.getfield 10, 3) := by decide +kernel
theorem dX10_oldest_31 : decode cX10_oldest 31 = .ok (.getfield 302, 3) := by decide +kernel
theorem dX10_oldest_34 : decode cX10_oldest 34 = .ok (.iconst 1, 1) := by decide +kernel
theorem dX10_oldest_35 : decode cX10_oldest 35 = .ok (.isub, 1) := by decide +kernel
theorem dX10_oldest_36 : decode cX10_oldest 36 = .ok (.invokevirtual 305, 3) := by decide +kernel
theorem dX10_oldest_39 : decode cX10_oldest 39 = .ok (.ireturn, 1) := by decide +kernel
theorem dX10_order_0 : decode cX10_order 0 = .ok (.iload_n 1, 1) := by decide +kernel
theorem dX10_order_1 : decode cX10_order 1 = .ok (.iconst (-1), 1) := by decide +kernel
theorem dX10_order_2 : decode cX10_order 2 = .ok (.if_icmp .ge 10, 3) := by decide +kernel
theorem dX10_order_5 : decode cX10_order 5 = .ok (.aload_n 0, 1) := by decide +kernel
theorem dX10_order_6 : decode cX10_order 6 = .ok (.bipush (-4), 2) := by decide +kernel
theorem dX10_order_8 : decode cX10_order 8 = .ok (.invokevirtual 67, 3) := by decide +kernel
theorem dX10_order_11 : decode cX10_order 11 = .ok (.ireturn, 1) := by decide +kernel
theorem dX10_order_12 : decode cX10_order 12 = .ok (.aload_n 0, 1) := by decide +kernel
theorem dX10_order_13 : decode cX10_order 13 = .ok (.getfield 10, 3) := by decide +kernel
theorem dX10_order_16 : decode cX10_order 16 = .ok (.getfield 220, 3) := by decide +kernel
theorem dX10_order_19 : decode cX10_order 19 = .ok (.aload_n 0, 1) := by decide +kernel
theorem dX10_order_20 : decode cX10_order 20 = .ok (.getfield 10, 3) := by decide +kernel
theorem dX10_order_23 : decode cX10_order 23 = .ok (.getfield 302, 3) := by decide +kernel
theorem dX10_order_26 : decode cX10_order 26 = .ok (.isub, 1) := by decide +kernel
theorem dX10_order_27 : decode cX10_order 27 = .ok (.istore_n 2, 1) := by decide +kernel
theorem dX10_order_28 : decode cX10_order 28 = .ok (.iload_n 2, 1) := by decide +kernel
theorem dX10_order_29 : decode cX10_order 29 = .ok (.iconst 5, 1) := by decide +kernel
theorem dX10_order_30 : decode cX10_order 30 = .ok (.if_icmp .le 10, 3) := by decide +kernel
theorem dX10_order_33 : decode cX10_order 33 = .ok (.aload_n 0, 1) := by decide +kernel
theorem dX10_order_34 : decode cX10_order 34 = .ok (.bipush (-3), 2) := by decide +kernel
theorem dX10_order_36 : decode cX10_order 36 = .ok (.invokevirtual 67, 3) := by decide +kernel
theorem dX10_order_39 : decode cX10_order 39 = .ok (.ireturn, 1) := by decide +kernel
theorem dX10_order_40 : decode cX10_order 40 = .ok (.ldc 219, 2) := by decide +kernel
theorem dX10_order_42 : decode cX10_order 42 = .ok (.istore_n 3, 1) := by decide +kernel
theorem dX10_order_43 : decode cX10_order 43 = .ok (.iload_n 2, 1) := by decide +kernel
theorem dX10_order_44 : decode cX10_order 44 = .ok (.invokestatic 308, 3) := by decide +kernel
theorem dX10_order_47 : decode cX10_order 47 = .ok (.istore 4, 2) := by decide +kernel
theorem dX10_order_49 : decode cX10_order 49 = .ok (.iconst 0, 1) := by decide +kernel
theorem dX10_order_50 : decode cX10_order 50 = .ok (.istore 5, 2) := by decide +kernel
theorem dX10_order_52 : decode cX10_order 52 = .ok (.iload 5, 2) := by decide +kernel
theorem dX10_order_54 : decode cX10_order 54 = .ok (.iload 4, 2) := by decide +kernel
theorem dX10_order_56 : decode cX10_order 56 = .ok (.if_icmp .ge 58, 3) := by decide +kernel
theorem dX10_order_59 : decode cX10_order 59 = .ok (.aload_n 0, 1) := by decide +kernel
theorem dX10_order_60 : decode cX10_order 60 = .ok (.iload 5, 2) := by decide +kernel
theorem dX10_order_62 : decode cX10_order 62 = .ok (.iload_n 2, 1) := by decide +kernel
theorem dX10_order_63 : decode cX10_order 63 = .ok (.invokevirtual 311, 3) := by decide +kernel
theorem dX10_order_66 : decode cX10_order 66 = .ok (.aload_n 0, 1) := by decide +kernel
theorem dX10_order_67 : decode cX10_order 67 = .ok (.iload_n 2, 1) := by decide +kernel
theorem dX10_order_68 : decode cX10_order 68 = .ok (.invokevirtual 314, 3) := by decide +kernel
theorem dX10_order_71 : decode cX10_order 71 = .ok (.istore 6, 2) := by decide +kernel
theorem dX10_order_73 : decode cX10_order 73 = .ok (.iload 6, 2) := by decide +kernel
theorem dX10_order_75 : decode cX10_order 75 = .ok (.iload_n 3, 1) := by decide +kernel
theorem dX10_order_76 : decode cX10_order 76 = .ok (.if_icmp .ge 32, 3) := by decide +kernel
theorem dX10_order_79 : decode cX10_order 79 = .ok (.iload 6, 2) := by decide +kernel
theorem dX10_order_81 : decode cX10_order 81 = .ok (.istore_n 3, 1) := by decide +kernel
theorem dX10_order_82 : decode cX10_order 82 = .ok (.aload_n 0, 1) := by decide +kernel
theorem dX10_order_83 : decode cX10_order 83 = .ok (.getfield 53, 3) := by decide +kernel
theorem dX10_order_86 : decode cX10_order 86 = .ok (.iconst 0, 1) := by decide +kernel
theorem dX10_order_87 : decode cX10_order 87 = .ok (.aload_n 0, 1) := by decide +kernel
theorem dX10_order_88 : decode cX10_order 88 = .ok (.getfield 56, 3) := by decide +kernel
theorem dX10_order_91 : decode cX10_order 91 = .ok (.iconst 0, 1) := by decide +kernel
theorem dX10_order_92 : decode cX10_order 92 = .ok (.aload_n 0, 1) := by decide +kernel
theorem dX10_order_93 : decode cX10_order 93 = .ok (.getfield 53, 3) := by decide +kernel
theorem dX10_order_96 : decode cX10_order 96 = .ok (.arraylength, 1) := by decide +kernel
theorem dX10_order_97 : decode cX10_order 97 = .ok (.aload_n 0, 1) := by decide +kernel
theorem dX10_order_98 : decode cX10_order 98 = .ok (.getfield 56, 3) := by decide +kernel
theorem dX10_order_101 : decode cX10_order 101 = .ok (.arraylength, 1) := by decide +kernel
theorem dX10_order_102 : decode cX10_order 102 = .ok (.invokestatic 317, 3) := by decide +kernel
theorem dX10_order_105 : decode cX10_order 105 = .ok (.invokestatic 322, 3) := by decide +kernel
theorem dX10_order_108 : decode cX10_order 108 = .ok (.iinc 5 1, 3) := by decide +kernel
theorem dX10_order_111 : decode cX10_order 111 = .ok (.goto (-59), 3) := by decide +kernel
theorem dX10_order_114 : decode cX10_order 114 = .ok (.iload_n 1, 1) := by decide +kernel
theorem dX10_order_115 : decode cX10_order 115 = .ok (.iconst (-1), 1) := by decide +kernel
theorem dX10_order_116 : decode cX10_order 116 = .ok (.if_icmp .ne 5, 3) := by decide +kernel
theorem dX10_order_119 : decode cX10_order 119 = .ok (.iload_n 3, 1) := by decide +kernel
theorem dX10_order_120 : decode cX10_order 120 = .ok (.ireturn, 1) := by decide +kernel
theorem dX10_order_121 : decode cX10_order 121 = .ok (.iload_n 1, 1) := by decide +kernel
theorem dX10_order_122 : decode cX10_order 122 = .ok (.iload_n 2, 1) := by decide +kernel
theorem dX10_order_123 : decode cX10_order 123 = .ok (.if_icmp .ge 21, 3) := by decide +kernel
theorem dX10_order_126 : decode cX10_order 126 = .ok (.iload_n 1, 1) := by decide +kernel
theorem dX10_order_127 : decode cX10_order 127 = .ok (.aload_n 0, 1) := by decide +kernel
theorem dX10_order_128 : decode cX10_order 128 = .ok (.getfield 56, 3) := by decide +kernel
theorem dX10_order_131 : decode cX10_order 131 = .ok (.arraylength, 1) := by decide +kernel
theorem dX10_order_132 : decode cX10_order 132 = .ok (.if_icmp .ge 12, 3) := by decide +kernel
theorem dX10_order_135 : decode cX10_order 135 = .ok (.aload_n 0, 1) := by decide +kernel
theorem dX10_order_136 : decode cX10_order 136 = .ok (.getfield 56, 3) := by decide +kernel
theorem dX10_order_139 : decode cX10_order 139 = .ok (.iload_n 1, 1) := by decide +kernel
theorem dX10_order_140 : decode cX10_order 140 = .ok (.iaload, 1) := by decide +kernel
theorem dX10_order_141 : decode cX10_order 141 = .ok (.goto 5, 3) := by decide +kernel
theorem dX10_order_144 : decode cX10_order 144 = .ok (.bipush (-9), 2) := by decide +kernel
theorem dX10_order_146 : decode cX10_order 146 = .ok (.ireturn, 1) := by decide +kernel
theorem dX10_jubilee_0 : decode cX10_jubilee 0 = .ok (.iload_n 1, 1) := by decide +kernel
theorem dX10_jubilee_1 : decode cX10_jubilee 1 = .ok (.invokestatic 178, 3) := by decide +kernel
theorem dX10_jubilee_4 : decode cX10_jubilee 4 = .ok (.istore_n 2, 1) := by decide +kernel
theorem dX10_jubilee_5 : decode cX10_jubilee 5 = .ok (.iload_n 2, 1) := by decide +kernel
theorem dX10_jubilee_6 : decode cX10_jubilee 6 = .ok (.ifCond .eq 9, 3) := by decide +kernel
theorem dX10_jubilee_9 : decode cX10_jubilee 9 = .ok (.aload_n 0, 1) := by decide +kernel
theorem dX10_jubilee_10 : decode cX10_jubilee 10 = .ok (.iload_n 2, 1) := by decide +kernel
theorem dX10_jubilee_11 : decode cX10_jubilee 11 = .ok (.invokevirtual 67, 3) := by decide +kernel
theorem dX10_jubilee_14 : decode cX10_jubilee 14 = .ok (.ireturn, 1) := by decide +kernel
theorem dX10_jubilee_15 : decode cX10_jubilee 15 = .ok (.bipush (-9), 2) := by decide +kernel
theorem dX10_jubilee_17 : decode cX10_jubilee 17 = .ok (.istore_n 3, 1) := by decide +kernel
theorem dX10_jubilee_18 : decode cX10_jubilee 18 = .ok (.ldc 219, 2) := by decide +kernel
theorem dX10_jubilee_20 : decode cX10_jubilee 20 = .ok (.istore 4, 2) := by decide +kernel
theorem dX10_jubilee_22 : decode cX10_jubilee 22 = .ok (.iconst 0, 1) := by decide +kernel
theorem dX10_jubilee_23 : decode cX10_jubilee 23 = .ok (.istore 5, 2) := by decide +kernel
theorem dX10_jubilee_25 : decode cX10_jubilee 25 = .ok (.iload 5, 2) := by decide +kernel
theorem dX10_jubilee_27 : decode cX10_jubilee 27 = .ok (.aload_n 0, 1) := by decide +kernel
theorem dX10_jubilee_28 : decode cX10_jubilee 28 = .ok (.getfield 10, 3) := by decide +kernel
theorem dX10_jubilee_31 : decode cX10_jubilee 31 = .ok (.getfield 255, 3) := by decide +kernel
theorem dX10_jubilee_34 : decode cX10_jubilee 34 = .ok (.if_icmp .ge 57, 3) := by decide +kernel
theorem dX10_jubilee_37 : decode cX10_jubilee 37 = .ok (.aload_n 0, 1) := by decide +kernel
theorem dX10_jubilee_38 : decode cX10_jubilee 38 = .ok (.getfield 16, 3) := by decide +kernel
theorem dX10_jubilee_41 : decode cX10_jubilee 41 = .ok (.aload_n 0, 1) := by decide +kernel
theorem dX10_jubilee_42 : decode cX10_jubilee 42 = .ok (.getfield 10, 3) := by decide +kernel
theorem dX10_jubilee_45 : decode cX10_jubilee 45 = .ok (.invokevirtual 74, 3) := by decide +kernel
theorem dX10_jubilee_48 : decode cX10_jubilee 48 = .ok (.aload_n 0, 1) := by decide +kernel
theorem dX10_jubilee_49 : decode cX10_jubilee 49 = .ok (.getfield 16, 3) := by decide +kernel
theorem dX10_jubilee_52 : decode cX10_jubilee 52 = .ok (.iload 5, 2) := by decide +kernel
theorem dX10_jubilee_54 : decode cX10_jubilee 54 = .ok (.invokevirtual 106, 3) := by decide +kernel
theorem dX10_jubilee_57 : decode cX10_jubilee 57 = .ok (.iconst 0, 1) := by decide +kernel
theorem dX10_jubilee_58 : decode cX10_jubilee 58 = .ok (.putfield 113, 3) := by decide +kernel
theorem dX10_jubilee_61 : decode cX10_jubilee 61 = .ok (.aload_n 0, 1) := by decide +kernel
theorem dX10_jubilee_62 : decode cX10_jubilee 62 = .ok (.getfield 16, 3) := by decide +kernel
theorem dX10_jubilee_65 : decode cX10_jubilee 65 = .ok (.iload_n 1, 1) := by decide +kernel
theorem dX10_jubilee_66 : decode cX10_jubilee 66 = .ok (.invokevirtual 181, 3) := by decide +kernel
theorem dX10_jubilee_69 : decode cX10_jubilee 69 = .ok (.istore 6, 2) := by decide +kernel
theorem dX10_jubilee_71 : decode cX10_jubilee 71 = .ok (.iload 6, 2) := by decide +kernel
theorem dX10_jubilee_73 : decode cX10_jubilee 73 = .ok (.iload 4, 2) := by decide +kernel
theorem dX10_jubilee_75 : decode cX10_jubilee 75 = .ok (.if_icmp .ge 10, 3) := by decide +kernel
theorem dX10_jubilee_78 : decode cX10_jubilee 78 = .ok (.iload 6, 2) := by decide +kernel
theorem dX10_jubilee_80 : decode cX10_jubilee 80 = .ok (.istore 4, 2) := by decide +kernel
theorem dX10_jubilee_82 : decode cX10_jubilee 82 = .ok (.iload 5, 2) := by decide +kernel
theorem dX10_jubilee_84 : decode cX10_jubilee 84 = .ok (.istore_n 3, 1) := by decide +kernel
theorem dX10_jubilee_85 : decode cX10_jubilee 85 = .ok (.iinc 5 1, 3) := by decide +kernel
theorem dX10_jubilee_88 : decode cX10_jubilee 88 = .ok (.goto (-63), 3) := by decide +kernel
theorem dX10_jubilee_91 : decode cX10_jubilee 91 = .ok (.iload_n 3, 1) := by decide +kernel
theorem dX10_jubilee_92 : decode cX10_jubilee 92 = .ok (.ireturn, 1) := by decide +kernel
theorem dX10_fair_0 : decode cX10_fair 0 = .ok (.iload_n 1, 1) := by decide +kernel
theorem dX10_fair_1 : decode cX10_fair 1 = .ok (.iconst 1, 1) := by decide +kernel
theorem dX10_fair_2 : decode cX10_fair 2 = .ok (.invokestatic 102, 3) := by decide +kernel
theorem dX10_fair_5 : decode cX10_fair 5 = .ok (.ifCond .eq 10, 3) := by decide +kernel
theorem dX10_fair_8 : decode cX10_fair 8 = .ok (.aload_n 0, 1) := by decide +kernel
theorem dX10_fair_9 : decode cX10_fair 9 = .ok (.bipush (-2), 2) := by decide +kernel
theorem dX10_fair_11 : decode cX10_fair 11 = .ok (.invokevirtual 67, 3) := by decide +kernel
theorem dX10_fair_14 : decode cX10_fair 14 = .ok (.ireturn, 1) := by decide +kernel
theorem dX10_fair_15 : decode cX10_fair 15 = .ok (.aload_n 0, 1) := by decide +kernel
theorem dX10_fair_16 : decode cX10_fair 16 = .ok (.iconst 0, 1) := by decide +kernel
theorem dX10_fair_17 : decode cX10_fair 17 = .ok (.invokevirtual 328, 3) := by decide +kernel
theorem dX10_fair_20 : decode cX10_fair 20 = .ok (.istore_n 2, 1) := by decide +kernel
theorem dX10_fair_21 : decode cX10_fair 21 = .ok (.iload_n 1, 1) := by decide +kernel
theorem dX10_fair_22 : decode cX10_fair 22 = .ok (.iconst 1, 1) := by decide +kernel
theorem dX10_fair_23 : decode cX10_fair 23 = .ok (.if_icmp .eq 9, 3) := by decide +kernel
theorem dX10_fair_26 : decode cX10_fair 26 = .ok (.iload_n 2, 1) := by decide +kernel
theorem dX10_fair_27 : decode cX10_fair 27 = .ok (.bipush (-9), 2) := by decide +kernel
theorem dX10_fair_29 : decode cX10_fair 29 = .ok (.if_icmp .ne 14, 3) := by decide +kernel
theorem dX10_fair_32 : decode cX10_fair 32 = .ok (.iload_n 1, 1) := by decide +kernel
theorem dX10_fair_33 : decode cX10_fair 33 = .ok (.iconst 1, 1) := by decide +kernel
theorem dX10_fair_34 : decode cX10_fair 34 = .ok (.if_icmp .ne 7, 3) := by decide +kernel
theorem dX10_fair_37 : decode cX10_fair 37 = .ok (.iload_n 2, 1) := by decide +kernel
theorem dX10_fair_38 : decode cX10_fair 38 = .ok (.goto 4, 3) := by decide +kernel
theorem dX10_fair_41 : decode cX10_fair 41 = .ok (.iconst 0, 1) := by decide +kernel
theorem dX10_fair_42 : decode cX10_fair 42 = .ok (.ireturn, 1) := by decide +kernel
theorem dX10_fair_43 : decode cX10_fair 43 = .ok (.aload_n 0, 1) := by decide +kernel
theorem dX10_fair_44 : decode cX10_fair 44 = .ok (.aload_n 0, 1) := by decide +kernel
theorem dX10_fair_45 : decode cX10_fair 45 = .ok (.getfield 10, 3) := by decide +kernel
theorem dX10_fair_48 : decode cX10_fair 48 = .ok (.getfield 255, 3) := by decide +kernel
theorem dX10_fair_51 : decode cX10_fair 51 = .ok (.iconst 1, 1) := by decide +kernel
theorem dX10_fair_52 : decode cX10_fair 52 = .ok (.isub, 1) := by decide +kernel
theorem dX10_fair_53 : decode cX10_fair 53 = .ok (.invokevirtual 328, 3) := by decide +kernel
theorem dX10_fair_56 : decode cX10_fair 56 = .ok (.istore_n 3, 1) := by decide +kernel
theorem dX10_fair_57 : decode cX10_fair 57 = .ok (.aload_n 0, 1) := by decide +kernel
theorem dX10_fair_58 : decode cX10_fair 58 = .ok (.getfield 10, 3) := by decide +kernel
theorem dX10_fair_61 : decode cX10_fair 61 = .ok (.iload_n 2, 1) := by decide +kernel
theorem dX10_fair_62 : decode cX10_fair 62 = .ok (.invokevirtual 106, 3) := by decide +kernel
theorem dX10_fair_65 : decode cX10_fair 65 = .ok (.invokevirtual 122, 3) := by decide +kernel
theorem dX10_fair_68 : decode cX10_fair 68 = .ok (.aload_n 0, 1) := by decide +kernel
theorem dX10_fair_69 : decode cX10_fair 69 = .ok (.getfield 10, 3) := by decide +kernel
theorem dX10_fair_72 : decode cX10_fair 72 = .ok (.iload_n 3, 1) := by decide +kernel
theorem dX10_fair_73 : decode cX10_fair 73 = .ok (.invokevirtual 106, 3) := by decide +kernel
theorem dX10_fair_76 : decode cX10_fair 76 = .ok (.invokevirtual 122, 3) := by decide +kernel
theorem dX10_fair_79 : decode cX10_fair 79 = .ok (.isub, 1) := by decide +kernel
theorem dX10_fair_80 : decode cX10_fair 80 = .ok (.ireturn, 1) := by decide +kernel
theorem dX10_peak_0 : decode cX10_peak 0 = .ok (.aload_n 0, 1) := by decide +kernel
theorem dX10_peak_1 : decode cX10_peak 1 = .ok (.iload_n 1, 1) := by decide +kernel
theorem dX10_peak_2 : decode cX10_peak 2 = .ok (.iload_n 2, 1) := by decide +kernel
theorem dX10_peak_3 : decode cX10_peak 3 = .ok (.invokevirtual 171, 3) := by decide +kernel
theorem dX10_peak_6 : decode cX10_peak 6 = .ok (.istore 4, 2) := by decide +kernel
theorem dX10_peak_8 : decode cX10_peak 8 = .ok (.iload 4, 2) := by decide +kernel
theorem dX10_peak_10 : decode cX10_peak 10 = .ok (.ifCond .ne 10, 3) := by decide +kernel
theorem dX10_peak_13 : decode cX10_peak 13 = .ok (.iload_n 3, 1) := by decide +kernel
theorem dX10_peak_14 : decode cX10_peak 14 = .ok (.iconst 1, 1) := by decide +kernel
theorem dX10_peak_15 : decode cX10_peak 15 = .ok (.invokestatic 102, 3) := by decide +kernel
theorem dX10_peak_18 : decode cX10_peak 18 = .ok (.istore 4, 2) := by decide +kernel
theorem dX10_peak_20 : decode cX10_peak 20 = .ok (.iload 4, 2) := by decide +kernel
theorem dX10_peak_22 : decode cX10_peak 22 = .ok (.ifCond .eq 10, 3) := by decide +kernel
theorem dX10_peak_25 : decode cX10_peak 25 = .ok (.aload_n 0, 1) := by decide +kernel
theorem dX10_peak_26 : decode cX10_peak 26 = .ok (.iload 4, 2) := by decide +kernel
theorem dX10_peak_28 : decode cX10_peak 28 = .ok (.invokevirtual 67, 3) := by decide +kernel
theorem dX10_peak_31 : decode cX10_peak 31 = .ok (.ireturn, 1) := by decide +kernel
theorem dX10_peak_32 : decode cX10_peak 32 = .ok (.aload_n 0, 1) := by decide +kernel
theorem dX10_peak_33 : decode cX10_peak 33 = .ok (.getfield 46, 3) := by decide +kernel
theorem dX10_peak_36 : decode cX10_peak 36 = .ok (.aload_n 0, 1) := by decide +kernel
theorem dX10_peak_37 : decode cX10_peak 37 = .ok (.getfield 10, 3) := by decide +kernel
theorem dX10_peak_40 : decode cX10_peak 40 = .ok (.iload_n 1, 1) := by decide +kernel
theorem dX10_peak_41 : decode cX10_peak 41 = .ok (.invokevirtual 106, 3) := by decide +kernel
theorem dX10_peak_44 : decode cX10_peak 44 = .ok (.invokevirtual 233, 3) := by decide +kernel
theorem dX10_peak_47 : decode cX10_peak 47 = .ok (.aload_n 0, 1) := by decide +kernel
theorem dX10_peak_48 : decode cX10_peak 48 = .ok (.getfield 46, 3) := by decide +kernel
theorem dX10_peak_51 : decode cX10_peak 51 = .ok (.getfield 113, 3) := by decide +kernel
theorem dX10_peak_54 : decode cX10_peak 54 = .ok (.istore 5, 2) := by decide +kernel
theorem dX10_peak_56 : decode cX10_peak 56 = .ok (.iconst 0, 1) := by decide +kernel
theorem dX10_peak_57 : decode cX10_peak 57 = .ok (.istore 6, 2) := by decide +kernel
theorem dX10_peak_59 : decode cX10_peak 59 = .ok (.iconst 1, 1) := by decide +kernel
theorem dX10_peak_60 : decode cX10_peak 60 = .ok (.istore 7, 2) := by decide +kernel
theorem dX10_peak_62 : decode cX10_peak 62 = .ok (.iload 7, 2) := by decide +kernel
theorem dX10_peak_64 : decode cX10_peak 64 = .ok (.iload_n 2, 1) := by decide +kernel
theorem dX10_peak_65 : decode cX10_peak 65 = .ok (.if_icmp .gt 58, 3) := by decide +kernel
theorem dX10_peak_68 : decode cX10_peak 68 = .ok (.aload_n 0, 1) := by decide +kernel
theorem dX10_peak_69 : decode cX10_peak 69 = .ok (.getfield 46, 3) := by decide +kernel
theorem dX10_peak_72 : decode cX10_peak 72 = .ok (.aload_n 0, 1) := by decide +kernel
theorem dX10_peak_73 : decode cX10_peak 73 = .ok (.getfield 10, 3) := by decide +kernel
theorem dX10_peak_76 : decode cX10_peak 76 = .ok (.getfield 239, 3) := by decide +kernel
theorem dX10_peak_79 : decode cX10_peak 79 = .ok (.aload_n 0, 1) := by decide +kernel
theorem dX10_peak_80 : decode cX10_peak 80 = .ok (.getfield 10, 3) := by decide +kernel
theorem dX10_peak_83 : decode cX10_peak 83 = .ok (.getfield 242, 3) := by decide +kernel
theorem dX10_peak_86 : decode cX10_peak 86 = .ok (.iload 7, 2) := by decide +kernel
theorem dX10_peak_88 : decode cX10_peak 88 = .ok (.iadd, 1) := by decide +kernel
theorem dX10_peak_89 : decode cX10_peak 89 = .ok (.invokevirtual 331, 3) := by decide +kernel
theorem dX10_peak_92 : decode cX10_peak 92 = .ok (.aload_n 0, 1) := by decide +kernel
theorem dX10_peak_93 : decode cX10_peak 93 = .ok (.getfield 46, 3) := by decide +kernel
theorem dX10_peak_96 : decode cX10_peak 96 = .ok (.getfield 113, 3) := by decide +kernel
theorem dX10_peak_99 : decode cX10_peak 99 = .ok (.iload 5, 2) := by decide +kernel
theorem dX10_peak_101 : decode cX10_peak 101 = .ok (.if_icmp .le 16, 3) := by decide +kernel
theorem dX10_peak_104 : decode cX10_peak 104 = .ok (.aload_n 0, 1) := by decide +kernel
theorem dX10_peak_105 : decode cX10_peak 105 = .ok (.getfield 46, 3) := by decide +kernel
theorem dX10_peak_108 : decode cX10_peak 108 = .ok (.getfield 113, 3) := by decide +kernel
theorem dX10_peak_111 : decode cX10_peak 111 = .ok (.istore 5, 2) := by decide +kernel
theorem dX10_peak_113 : decode cX10_peak 113 = .ok (.iload 7, 2) := by decide +kernel
theorem dX10_peak_115 : decode cX10_peak 115 = .ok (.istore 6, 2) := by decide +kernel
theorem dX10_peak_117 : decode cX10_peak 117 = .ok (.iinc 7 1, 3) := by decide +kernel
theorem dX10_peak_120 : decode cX10_peak 120 = .ok (.goto (-58), 3) := by decide +kernel
theorem dX10_peak_123 : decode cX10_peak 123 = .ok (.iload_n 3, 1) := by decide +kernel
theorem dX10_peak_124 : decode cX10_peak 124 = .ok (.ifCond .ne 8, 3) := by decide +kernel
theorem dX10_peak_127 : decode cX10_peak 127 = .ok (.iload 5, 2) := by decide +kernel
theorem dX10_peak_129 : decode cX10_peak 129 = .ok (.goto 5, 3) := by decide +kernel
theorem dX10_peak_132 : decode cX10_peak 132 = .ok (.iload 6, 2) := by decide +kernel
theorem dX10_peak_134 : decode cX10_peak 134 = .ok (.ireturn, 1) := by decide +kernel
theorem dX10_interest_0 : decode cX10_interest 0 = .ok (.aload_n 0, 1) := by decide +kernel
theorem dX10_interest_1 : decode cX10_interest 1 = .ok (.iload_n 1, 1) := by decide +kernel
theorem dX10_interest_2 : decode cX10_interest 2 = .ok (.iload_n 2, 1) := by decide +kernel
theorem dX10_interest_3 : decode cX10_interest 3 = .ok (.invokevirtual 171, 3) := by decide +kernel
theorem dX10_interest_6 : decode cX10_interest 6 = .ok (.istore_n 3, 1) := by decide +kernel
theorem dX10_interest_7 : decode cX10_interest 7 = .ok (.iload_n 3, 1) := by decide +kernel
theorem dX10_interest_8 : decode cX10_interest 8 = .ok (.ifCond .eq 9, 3) := by decide +kernel
theorem dX10_interest_11 : decode cX10_interest 11 = .ok (.aload_n 0, 1) := by decide +kernel
theorem dX10_interest_12 : decode cX10_interest 12 = .ok (.iload_n 3, 1) := by decide +kernel
theorem dX10_interest_13 : decode cX10_interest 13 = .ok (.invokevirtual 67, 3) := by decide +kernel
theorem dX10_interest_16 : decode cX10_interest 16 = .ok (.ireturn, 1) := by decide +kernel
theorem dX10_interest_17 : decode cX10_interest 17 = .ok (.aload_n 0, 1) := by decide +kernel
theorem dX10_interest_18 : decode cX10_interest 18 = .ok (.iload_n 1, 1) := by decide +kernel
theorem dX10_interest_19 : decode cX10_interest 19 = .ok (.iload_n 2, 1) := by decide +kernel
theorem dX10_interest_20 : decode cX10_interest 20 = .ok (.invokevirtual 174, 3) := by decide +kernel
theorem dX10_interest_23 : decode cX10_interest 23 = .ok (.aload_n 0, 1) := by decide +kernel
theorem dX10_interest_24 : decode cX10_interest 24 = .ok (.getfield 46, 3) := by decide +kernel
theorem dX10_interest_27 : decode cX10_interest 27 = .ok (.getfield 334, 3) := by decide +kernel
theorem dX10_interest_30 : decode cX10_interest 30 = .ok (.ireturn, 1) := by decide +kernel
theorem dX10_doubled_0 : decode cX10_doubled 0 = .ok (.aload_n 0, 1) := by decide +kernel
theorem dX10_doubled_1 : decode cX10_doubled 1 = .ok (.getfield 10, 3) := by decide +kernel
theorem dX10_doubled_4 : decode cX10_doubled 4 = .ok (.iload_n 1, 1) := by decide +kernel
theorem dX10_doubled_5 : decode cX10_doubled 5 = .ok (.invokevirtual 99, 3) := by decide +kernel
theorem dX10_doubled_8 : decode cX10_doubled 8 = .ok (.istore_n 2, 1) := by decide +kernel
theorem dX10_doubled_9 : decode cX10_doubled 9 = .ok (.iload_n 2, 1) := by decide +kernel
theorem dX10_doubled_10 : decode cX10_doubled 10 = .ok (.ifCond .eq 9, 3) := by decide +kernel
theorem dX10_doubled_13 : decode cX10_doubled 13 = .ok (.aload_n 0, 1) := by decide +kernel
theorem dX10_doubled_14 : decode cX10_doubled 14 = .ok (.iload_n 2, 1) := by decide +kernel
theorem dX10_doubled_15 : decode cX10_doubled 15 = .ok (.invokevirtual 67, 3) := by decide +kernel
theorem dX10_doubled_18 : decode cX10_doubled 18 = .ok (.ireturn, 1) := by decide +kernel
theorem dX10_doubled_19 : decode cX10_doubled 19 = .ok (.aload_n 0, 1) := by decide +kernel
theorem dX10_doubled_20 : decode cX10_doubled 20 = .ok (.getfield 46, 3) := by decide +kernel
theorem dX10_doubled_23 : decode cX10_doubled 23 = .ok (.aload_n 0, 1) := by decide +kernel
theorem dX10_doubled_24 : decode cX10_doubled 24 = .ok (.getfield 10, 3) := by decide +kernel
theorem dX10_doubled_27 : decode cX10_doubled 27 = .ok (.iload_n 1, 1) := by decide +kernel
theorem dX10_doubled_28 : decode cX10_doubled 28 = .ok (.invokevirtual 106, 3) := by decide +kernel
theorem dX10_doubled_31 : decode cX10_doubled 31 = .ok (.invokevirtual 233, 3) := by decide +kernel
theorem dX10_doubled_34 : decode cX10_doubled 34 = .ok (.iconst 2, 1) := by decide +kernel
theorem dX10_doubled_35 : decode cX10_doubled 35 = .ok (.aload_n 0, 1) := by decide +kernel
theorem dX10_doubled_36 : decode cX10_doubled 36 = .ok (.getfield 46, 3) := by decide +kernel
theorem dX10_doubled_39 : decode cX10_doubled 39 = .ok (.getfield 113, 3) := by decide +kernel
theorem dX10_doubled_42 : decode cX10_doubled 42 = .ok (.imul, 1) := by decide +kernel
theorem dX10_doubled_43 : decode cX10_doubled 43 = .ok (.istore_n 3, 1) := by decide +kernel
theorem dX10_doubled_44 : decode cX10_doubled 44 = .ok (.iconst 1, 1) := by decide +kernel
theorem dX10_doubled_45 : decode cX10_doubled 45 = .ok (.istore 4, 2) := by decide +kernel
theorem dX10_doubled_47 : decode cX10_doubled 47 = .ok (.iload_n 3, 1) := by decide +kernel
theorem dX10_doubled_48 : decode cX10_doubled 48 = .ok (.ifCond .le 54, 3) := by decide +kernel
theorem dX10_doubled_51 : decode cX10_doubled 51 = .ok (.iload 4, 2) := by decide +kernel
theorem dX10_doubled_53 : decode cX10_doubled 53 = .ok (.bipush 100, 2) := by decide +kernel
theorem dX10_doubled_55 : decode cX10_doubled 55 = .ok (.if_icmp .gt 47, 3) := by decide +kernel
theorem dX10_doubled_58 : decode cX10_doubled 58 = .ok (.aload_n 0, 1) := by decide +kernel
theorem dX10_doubled_59 : decode cX10_doubled 59 = .ok (.getfield 46, 3) := by decide +kernel
theorem dX10_doubled_62 : decode cX10_doubled 62 = .ok (.aload_n 0, 1) := by decide +kernel
theorem dX10_doubled_63 : decode cX10_doubled 63 = .ok (.getfield 10, 3) := by decide +kernel
theorem dX10_doubled_66 : decode cX10_doubled 66 = .ok (.getfield 239, 3) := by decide +kernel
theorem dX10_doubled_69 : decode cX10_doubled 69 = .ok (.aload_n 0, 1) := by decide +kernel
theorem dX10_doubled_70 : decode cX10_doubled 70 = .ok (.getfield 10, 3) := by decide +kernel
theorem dX10_doubled_73 : decode cX10_doubled 73 = .ok (.getfield 242, 3) := by decide +kernel
theorem dX10_doubled_76 : decode cX10_doubled 76 = .ok (.iload 4, 2) := by decide +kernel
theorem dX10_doubled_78 : decode cX10_doubled 78 = .ok (.iadd, 1) := by decide +kernel
theorem dX10_doubled_79 : decode cX10_doubled 79 = .ok (.invokevirtual 331, 3) := by decide +kernel
theorem dX10_doubled_82 : decode cX10_doubled 82 = .ok (.aload_n 0, 1) := by decide +kernel
theorem dX10_doubled_83 : decode cX10_doubled 83 = .ok (.getfield 46, 3) := by decide +kernel
theorem dX10_doubled_86 : decode cX10_doubled 86 = .ok (.getfield 113, 3) := by decide +kernel
theorem dX10_doubled_89 : decode cX10_doubled 89 = .ok (.iload_n 3, 1) := by decide +kernel
theorem dX10_doubled_90 : decode cX10_doubled 90 = .ok (.if_icmp .lt 6, 3) := by decide +kernel
theorem dX10_doubled_93 : decode cX10_doubled 93 = .ok (.iload 4, 2) := by decide +kernel
theorem dX10_doubled_95 : decode cX10_doubled 95 = .ok (.ireturn, 1) := by decide +kernel
theorem dX10_doubled_96 : decode cX10_doubled 96 = .ok (.iinc 4 1, 3) := by decide +kernel
theorem dX10_doubled_99 : decode cX10_doubled 99 = .ok (.goto (-52), 3) := by decide +kernel
theorem dX10_doubled_102 : decode cX10_doubled 102 = .ok (.bipush (-9), 2) := by decide +kernel
theorem dX10_doubled_104 : decode cX10_doubled 104 = .ok (.ireturn, 1) := by decide +kernel
theorem dX10_commonPay_0 : decode cX10_commonPay 0 = .ok (.iload_n 1, 1) := by decide +kernel
theorem dX10_commonPay_1 : decode cX10_commonPay 1 = .ok (.bipush 100, 2) := by decide +kernel
theorem dX10_commonPay_3 : decode cX10_commonPay 3 = .ok (.iload_n 2, 1) := by decide +kernel
theorem dX10_commonPay_4 : decode cX10_commonPay 4 = .ok (.ldc_w 337, 3) := by decide +kernel
theorem dX10_commonPay_7 : decode cX10_commonPay 7 = .ok (.invokestatic 202, 3) := by decide +kernel
theorem dX10_commonPay_10 : decode cX10_commonPay 10 = .ok (.istore_n 3, 1) := by decide +kernel
theorem dX10_commonPay_11 : decode cX10_commonPay 11 = .ok (.iload_n 3, 1) := by decide +kernel
theorem dX10_commonPay_12 : decode cX10_commonPay 12 = .ok (.ifCond .eq 9, 3) := by decide +kernel
theorem dX10_commonPay_15 : decode cX10_commonPay 15 = .ok (.aload_n 0, 1) := by decide +kernel
theorem dX10_commonPay_16 : decode cX10_commonPay 16 = .ok (.iload_n 3, 1) := by decide +kernel
theorem dX10_commonPay_17 : decode cX10_commonPay 17 = .ok (.invokevirtual 67, 3) := by decide +kernel
theorem dX10_commonPay_20 : decode cX10_commonPay 20 = .ok (.ireturn, 1) := by decide +kernel
theorem dX10_commonPay_21 : decode cX10_commonPay 21 = .ok (.iconst 0, 1) := by decide +kernel
theorem dX10_commonPay_22 : decode cX10_commonPay 22 = .ok (.istore 4, 2) := by decide +kernel
theorem dX10_commonPay_24 : decode cX10_commonPay 24 = .ok (.iload 4, 2) := by decide +kernel
theorem dX10_commonPay_26 : decode cX10_commonPay 26 = .ok (.bipush 9, 2) := by decide +kernel
theorem dX10_commonPay_28 : decode cX10_commonPay 28 = .ok (.if_icmp .gt 70, 3) := by decide +kernel
theorem dX10_commonPay_31 : decode cX10_commonPay 31 = .ok (.aload_n 0, 1) := by decide +kernel
theorem dX10_commonPay_32 : decode cX10_commonPay 32 = .ok (.getfield 16, 3) := by decide +kernel
theorem dX10_commonPay_35 : decode cX10_commonPay 35 = .ok (.aload_n 0, 1) := by decide +kernel
theorem dX10_commonPay_36 : decode cX10_commonPay 36 = .ok (.getfield 10, 3) := by decide +kernel
theorem dX10_commonPay_39 : decode cX10_commonPay 39 = .ok (.invokevirtual 74, 3) := by decide +kernel
theorem dX10_commonPay_42 : decode cX10_commonPay 42 = .ok (.iconst 0, 1) := by decide +kernel
theorem dX10_commonPay_43 : decode cX10_commonPay 43 = .ok (.istore 5, 2) := by decide +kernel
theorem dX10_commonPay_45 : decode cX10_commonPay 45 = .ok (.iload 5, 2) := by decide +kernel
theorem dX10_commonPay_47 : decode cX10_commonPay 47 = .ok (.aload_n 0, 1) := by decide +kernel
theorem dX10_commonPay_48 : decode cX10_commonPay 48 = .ok (.getfield 16, 3) := by decide +kernel
theorem dX10_commonPay_51 : decode cX10_commonPay 51 = .ok (.getfield 255, 3) := by decide +kernel
theorem dX10_commonPay_54 : decode cX10_commonPay 54 = .ok (.if_icmp .ge 23, 3) := by decide +kernel
theorem dX10_commonPay_57 : decode cX10_commonPay 57 = .ok (.aload_n 0, 1) := by decide +kernel
theorem dX10_commonPay_58 : decode cX10_commonPay 58 = .ok (.getfield 16, 3) := by decide +kernel
theorem dX10_commonPay_61 : decode cX10_commonPay 61 = .ok (.iload 5, 2) := by decide +kernel
theorem dX10_commonPay_63 : decode cX10_commonPay 63 = .ok (.invokevirtual 106, 3) := by decide +kernel
theorem dX10_commonPay_66 : decode cX10_commonPay 66 = .ok (.iload 4, 2) := by decide +kernel
theorem dX10_commonPay_68 : decode cX10_commonPay 68 = .ok (.putfield 116, 3) := by decide +kernel
theorem dX10_commonPay_71 : decode cX10_commonPay 71 = .ok (.iinc 5 1, 3) := by decide +kernel
theorem dX10_commonPay_74 : decode cX10_commonPay 74 = .ok (.goto (-29), 3) := by decide +kernel
theorem dX10_commonPay_77 : decode cX10_commonPay 77 = .ok (.aload_n 0, 1) := by decide +kernel
theorem dX10_commonPay_78 : decode cX10_commonPay 78 = .ok (.getfield 16, 3) := by decide +kernel
theorem dX10_commonPay_81 : decode cX10_commonPay 81 = .ok (.iload_n 1, 1) := by decide +kernel
theorem dX10_commonPay_82 : decode cX10_commonPay 82 = .ok (.invokevirtual 181, 3) := by decide +kernel
theorem dX10_commonPay_85 : decode cX10_commonPay 85 = .ok (.iload_n 2, 1) := by decide +kernel
theorem dX10_commonPay_86 : decode cX10_commonPay 86 = .ok (.if_icmp .gt 6, 3) := by decide +kernel
theorem dX10_commonPay_89 : decode cX10_commonPay 89 = .ok (.iload 4, 2) := by decide +kernel
theorem dX10_commonPay_91 : decode cX10_commonPay 91 = .ok (.ireturn, 1) := by decide +kernel
theorem dX10_commonPay_92 : decode cX10_commonPay 92 = .ok (.iinc 4 1, 3) := by decide +kernel
theorem dX10_commonPay_95 : decode cX10_commonPay 95 = .ok (.goto (-71), 3) := by decide +kernel
theorem dX10_commonPay_98 : decode cX10_commonPay 98 = .ok (.bipush (-9), 2) := by decide +kernel
theorem dX10_commonPay_100 : decode cX10_commonPay 100 = .ok (.ireturn, 1) := by decide +kernel
theorem dX10_bestBirths_0 : decode cX10_bestBirths 0 = .ok (.aload_n 0, 1) := by decide +kernel
theorem dX10_bestBirths_1 : decode cX10_bestBirths 1 = .ok (.iload_n 1, 1) := by decide +kernel
theorem dX10_bestBirths_2 : decode cX10_bestBirths 2 = .ok (.iload_n 2, 1) := by decide +kernel
theorem dX10_bestBirths_3 : decode cX10_bestBirths 3 = .ok (.invokevirtual 171, 3) := by decide +kernel
theorem dX10_bestBirths_6 : decode cX10_bestBirths 6 = .ok (.istore_n 3, 1) := by decide +kernel
theorem dX10_bestBirths_7 : decode cX10_bestBirths 7 = .ok (.iload_n 3, 1) := by decide +kernel
theorem dX10_bestBirths_8 : decode cX10_bestBirths 8 = .ok (.ifCond .eq 9, 3) := by decide +kernel
theorem dX10_bestBirths_11 : decode cX10_bestBirths 11 = .ok (.aload_n 0, 1) := by decide +kernel
theorem dX10_bestBirths_12 : decode cX10_bestBirths 12 = .ok (.iload_n 3, 1) := by decide +kernel
theorem dX10_bestBirths_13 : decode cX10_bestBirths 13 = .ok (.invokevirtual 67, 3) := by decide +kernel
theorem dX10_bestBirths_16 : decode cX10_bestBirths 16 = .ok (.ireturn, 1) := by decide +kernel
theorem dX10_bestBirths_17 : decode cX10_bestBirths 17 = .ok (.iconst 0, 1) := by decide +kernel
theorem dX10_bestBirths_18 : decode cX10_bestBirths 18 = .ok (.istore 4, 2) := by decide +kernel
theorem dX10_bestBirths_20 : decode cX10_bestBirths 20 = .ok (.ldc 219, 2) := by decide +kernel
theorem dX10_bestBirths_22 : decode cX10_bestBirths 22 = .ok (.istore 5, 2) := by decide +kernel
theorem dX10_bestBirths_24 : decode cX10_bestBirths 24 = .ok (.iconst 0, 1) := by decide +kernel
theorem dX10_bestBirths_25 : decode cX10_bestBirths 25 = .ok (.istore 6, 2) := by decide +kernel
theorem dX10_bestBirths_27 : decode cX10_bestBirths 27 = .ok (.iload 6, 2) := by decide +kernel
theorem dX10_bestBirths_29 : decode cX10_bestBirths 29 = .ok (.bipush 9, 2) := by decide +kernel
theorem dX10_bestBirths_31 : decode cX10_bestBirths 31 = .ok (.if_icmp .gt 80, 3) := by decide +kernel
theorem dX10_bestBirths_34 : decode cX10_bestBirths 34 = .ok (.aload_n 0, 1) := by decide +kernel
theorem dX10_bestBirths_35 : decode cX10_bestBirths 35 = .ok (.getfield 46, 3) := by decide +kernel
theorem dX10_bestBirths_38 : decode cX10_bestBirths 38 = .ok (.aload_n 0, 1) := by decide +kernel
theorem dX10_bestBirths_39 : decode cX10_bestBirths 39 = .ok (.getfield 10, 3) := by decide +kernel
theorem dX10_bestBirths_42 : decode cX10_bestBirths 42 = .ok (.iload_n 1, 1) := by decide +kernel
theorem dX10_bestBirths_43 : decode cX10_bestBirths 43 = .ok (.invokevirtual 106, 3) := by decide +kernel
theorem dX10_bestBirths_46 : decode cX10_bestBirths 46 = .ok (.invokevirtual 233, 3) := by decide +kernel
theorem dX10_bestBirths_49 : decode cX10_bestBirths 49 = .ok (.aload_n 0, 1) := by decide +kernel
theorem dX10_bestBirths_50 : decode cX10_bestBirths 50 = .ok (.getfield 46, 3) := by decide +kernel
theorem dX10_bestBirths_53 : decode cX10_bestBirths 53 = .ok (.iload 6, 2) := by decide +kernel
theorem dX10_bestBirths_55 : decode cX10_bestBirths 55 = .ok (.putfield 119, 3) := by decide +kernel
theorem dX10_bestBirths_58 : decode cX10_bestBirths 58 = .ok (.aload_n 0, 1) := by decide +kernel
theorem dX10_bestBirths_59 : decode cX10_bestBirths 59 = .ok (.getfield 46, 3) := by decide +kernel
theorem dX10_bestBirths_62 : decode cX10_bestBirths 62 = .ok (.aload_n 0, 1) := by decide +kernel
theorem dX10_bestBirths_63 : decode cX10_bestBirths 63 = .ok (.getfield 10, 3) := by decide +kernel
theorem dX10_bestBirths_66 : decode cX10_bestBirths 66 = .ok (.getfield 239, 3) := by decide +kernel
theorem dX10_bestBirths_69 : decode cX10_bestBirths 69 = .ok (.aload_n 0, 1) := by decide +kernel
theorem dX10_bestBirths_70 : decode cX10_bestBirths 70 = .ok (.getfield 10, 3) := by decide +kernel
theorem dX10_bestBirths_73 : decode cX10_bestBirths 73 = .ok (.getfield 242, 3) := by decide +kernel
theorem dX10_bestBirths_76 : decode cX10_bestBirths 76 = .ok (.iload_n 2, 1) := by decide +kernel
theorem dX10_bestBirths_77 : decode cX10_bestBirths 77 = .ok (.invokevirtual 245, 3) := by decide +kernel
theorem dX10_bestBirths_80 : decode cX10_bestBirths 80 = .ok (.aload_n 0, 1) := by decide +kernel
theorem dX10_bestBirths_81 : decode cX10_bestBirths 81 = .ok (.getfield 46, 3) := by decide +kernel
theorem dX10_bestBirths_84 : decode cX10_bestBirths 84 = .ok (.invokevirtual 122, 3) := by decide +kernel
theorem dX10_bestBirths_87 : decode cX10_bestBirths 87 = .ok (.iload 5, 2) := by decide +kernel
theorem dX10_bestBirths_89 : decode cX10_bestBirths 89 = .ok (.if_icmp .ge 16, 3) := by decide +kernel
theorem dX10_bestBirths_92 : decode cX10_bestBirths 92 = .ok (.aload_n 0, 1) := by decide +kernel
theorem dX10_bestBirths_93 : decode cX10_bestBirths 93 = .ok (.getfield 46, 3) := by decide +kernel
theorem dX10_bestBirths_96 : decode cX10_bestBirths 96 = .ok (.invokevirtual 122, 3) := by decide +kernel
theorem dX10_bestBirths_99 : decode cX10_bestBirths 99 = .ok (.istore 5, 2) := by decide +kernel
theorem dX10_bestBirths_101 : decode cX10_bestBirths 101 = .ok (.iload 6, 2) := by decide +kernel
theorem dX10_bestBirths_103 : decode cX10_bestBirths 103 = .ok (.istore 4, 2) := by decide +kernel
theorem dX10_bestBirths_105 : decode cX10_bestBirths 105 = .ok (.iinc 6 1, 3) := by decide +kernel
theorem dX10_bestBirths_108 : decode cX10_bestBirths 108 = .ok (.goto (-81), 3) := by decide +kernel
theorem dX10_bestBirths_111 : decode cX10_bestBirths 111 = .ok (.iload 4, 2) := by decide +kernel
theorem dX10_bestBirths_113 : decode cX10_bestBirths 113 = .ok (.ireturn, 1) := by decide +kernel
theorem dX10_lump_0 : decode cX10_lump 0 = .ok (.aload_n 0, 1) := by decide +kernel
theorem dX10_lump_1 : decode cX10_lump 1 = .ok (.getfield 10, 3) := by decide +kernel
theorem dX10_lump_4 : decode cX10_lump 4 = .ok (.iload_n 1, 1) := by decide +kernel
theorem dX10_lump_5 : decode cX10_lump 5 = .ok (.invokevirtual 99, 3) := by decide +kernel
theorem dX10_lump_8 : decode cX10_lump 8 = .ok (.istore_n 3, 1) := by decide +kernel
theorem dX10_lump_9 : decode cX10_lump 9 = .ok (.iload_n 3, 1) := by decide +kernel
theorem dX10_lump_10 : decode cX10_lump 10 = .ok (.ifCond .ne 12, 3) := by decide +kernel
theorem dX10_lump_13 : decode cX10_lump 13 = .ok (.iload_n 2, 1) := by decide +kernel
theorem dX10_lump_14 : decode cX10_lump 14 = .ok (.iconst 0, 1) := by decide +kernel
theorem dX10_lump_15 : decode cX10_lump 15 = .ok (.sipush 9999, 3) := by decide +kernel
theorem dX10_lump_18 : decode cX10_lump 18 = .ok (.invokestatic 59, 3) := by decide +kernel
theorem dX10_lump_21 : decode cX10_lump 21 = .ok (.istore_n 3, 1) := by decide +kernel
theorem dX10_lump_22 : decode cX10_lump 22 = .ok (.iload_n 3, 1) := by decide +kernel
theorem dX10_lump_23 : decode cX10_lump 23 = .ok (.ifCond .eq 11, 3) := by decide +kernel
theorem dX10_lump_26 : decode cX10_lump 26 = .ok (.aload_n 0, 1) := by decide +kernel
theorem dX10_lump_27 : decode cX10_lump 27 = .ok (.iload_n 3, 1) := by decide +kernel
theorem dX10_lump_28 : decode cX10_lump 28 = .ok (.invokevirtual 67, 3) := by decide +kernel
theorem dX10_lump_31 : decode cX10_lump 31 = .ok (.goto 9, 3) := by decide +kernel
theorem dX10_lump_34 : decode cX10_lump 34 = .ok (.aload_n 0, 1) := by decide +kernel
theorem dX10_lump_35 : decode cX10_lump 35 = .ok (.iload_n 1, 1) := by decide +kernel
theorem dX10_lump_36 : decode cX10_lump 36 = .ok (.iload_n 2, 1) := by decide +kernel
theorem dX10_lump_37 : decode cX10_lump 37 = .ok (.invokevirtual 184, 3) := by decide +kernel
theorem dX10_lump_40 : decode cX10_lump 40 = .ok (.ireturn, 1) := by decide +kernel
theorem dX10_crosses_0 : decode cX10_crosses 0 = .ok (.aload_n 0, 1) := by decide +kernel
theorem dX10_crosses_1 : decode cX10_crosses 1 = .ok (.getfield 10, 3) := by decide +kernel
theorem dX10_crosses_4 : decode cX10_crosses 4 = .ok (.iload_n 1, 1) := by decide +kernel
theorem dX10_crosses_5 : decode cX10_crosses 5 = .ok (.iload_n 2, 1) := by decide +kernel
theorem dX10_crosses_6 : decode cX10_crosses 6 = .ok (.invokevirtual 338, 3) := by decide +kernel
theorem dX10_crosses_9 : decode cX10_crosses 9 = .ok (.istore_n 3, 1) := by decide +kernel
theorem dX10_crosses_10 : decode cX10_crosses 10 = .ok (.iload_n 3, 1) := by decide +kernel
theorem dX10_crosses_11 : decode cX10_crosses 11 = .ok (.ifCond .eq 9, 3) := by decide +kernel
theorem dX10_crosses_14 : decode cX10_crosses 14 = .ok (.aload_n 0, 1) := by decide +kernel
theorem dX10_crosses_15 : decode cX10_crosses 15 = .ok (.iload_n 3, 1) := by decide +kernel
theorem dX10_crosses_16 : decode cX10_crosses 16 = .ok (.invokevirtual 67, 3) := by decide +kernel
theorem dX10_crosses_19 : decode cX10_crosses 19 = .ok (.ireturn, 1) := by decide +kernel
theorem dX10_crosses_20 : decode cX10_crosses 20 = .ok (.aload_n 0, 1) := by decide +kernel
theorem dX10_crosses_21 : decode cX10_crosses 21 = .ok (.getfield 16, 3) := by decide +kernel
theorem dX10_crosses_24 : decode cX10_crosses 24 = .ok (.aload_n 0, 1) := by decide +kernel
theorem dX10_crosses_25 : decode cX10_crosses 25 = .ok (.getfield 10, 3) := by decide +kernel
theorem dX10_crosses_28 : decode cX10_crosses 28 = .ok (.invokevirtual 74, 3) := by decide +kernel
theorem dX10_crosses_31 : decode cX10_crosses 31 = .ok (.iconst 0, 1) := by decide +kernel
theorem dX10_crosses_32 : decode cX10_crosses 32 = .ok (.istore 4, 2) := by decide +kernel
theorem dX10_crosses_34 : decode cX10_crosses 34 = .ok (.iload 4, 2) := by decide +kernel
theorem dX10_crosses_36 : decode cX10_crosses 36 = .ok (.bipush 100, 2) := by decide +kernel
theorem dX10_crosses_38 : decode cX10_crosses 38 = .ok (.if_icmp .gt 44, 3) := by decide +kernel
theorem dX10_crosses_41 : decode cX10_crosses 41 = .ok (.aload_n 0, 1) := by decide +kernel
theorem dX10_crosses_42 : decode cX10_crosses 42 = .ok (.getfield 16, 3) := by decide +kernel
theorem dX10_crosses_45 : decode cX10_crosses 45 = .ok (.iload_n 1, 1) := by decide +kernel
theorem dX10_crosses_46 : decode cX10_crosses 46 = .ok (.invokevirtual 106, 3) := by decide +kernel
theorem dX10_crosses_49 : decode cX10_crosses 49 = .ok (.invokevirtual 122, 3) := by decide +kernel
theorem dX10_crosses_52 : decode cX10_crosses 52 = .ok (.aload_n 0, 1) := by decide +kernel
theorem dX10_crosses_53 : decode cX10_crosses 53 = .ok (.getfield 16, 3) := by decide +kernel
theorem dX10_crosses_56 : decode cX10_crosses 56 = .ok (.iload_n 2, 1) := by decide +kernel
theorem dX10_crosses_57 : decode cX10_crosses 57 = .ok (.invokevirtual 106, 3) := by decide +kernel
theorem dX10_crosses_60 : decode cX10_crosses 60 = .ok (.invokevirtual 122, 3) := by decide +kernel
theorem dX10_crosses_63 : decode cX10_crosses 63 = .ok (.if_icmp .ge 6, 3) := by decide +kernel
theorem dX10_crosses_66 : decode cX10_crosses 66 = .ok (.iload 4, 2) := by decide +kernel
theorem dX10_crosses_68 : decode cX10_crosses 68 = .ok (.ireturn, 1) := by decide +kernel
theorem dX10_crosses_69 : decode cX10_crosses 69 = .ok (.aload_n 0, 1) := by decide +kernel
theorem dX10_crosses_70 : decode cX10_crosses 70 = .ok (.getfield 16, 3) := by decide +kernel
theorem dX10_crosses_73 : decode cX10_crosses 73 = .ok (.invokevirtual 341, 3) := by decide +kernel
theorem dX10_crosses_76 : decode cX10_crosses 76 = .ok (.iinc 4 1, 3) := by decide +kernel
theorem dX10_crosses_79 : decode cX10_crosses 79 = .ok (.goto (-45), 3) := by decide +kernel
theorem dX10_crosses_82 : decode cX10_crosses 82 = .ok (.bipush (-9), 2) := by decide +kernel
theorem dX10_crosses_84 : decode cX10_crosses 84 = .ok (.ireturn, 1) := by decide +kernel
theorem dX10_heir_0 : decode cX10_heir 0 = .ok (.aload_n 0, 1) := by decide +kernel
theorem dX10_heir_1 : decode cX10_heir 1 = .ok (.getfield 10, 3) := by decide +kernel
theorem dX10_heir_4 : decode cX10_heir 4 = .ok (.iload_n 1, 1) := by decide +kernel
theorem dX10_heir_5 : decode cX10_heir 5 = .ok (.invokevirtual 99, 3) := by decide +kernel
theorem dX10_heir_8 : decode cX10_heir 8 = .ok (.istore_n 2, 1) := by decide +kernel
theorem dX10_heir_9 : decode cX10_heir 9 = .ok (.iload_n 2, 1) := by decide +kernel
theorem dX10_heir_10 : decode cX10_heir 10 = .ok (.ifCond .eq 9, 3) := by decide +kernel
theorem dX10_heir_13 : decode cX10_heir 13 = .ok (.aload_n 0, 1) := by decide +kernel
theorem dX10_heir_14 : decode cX10_heir 14 = .ok (.iload_n 2, 1) := by decide +kernel
theorem dX10_heir_15 : decode cX10_heir 15 = .ok (.invokevirtual 67, 3) := by decide +kernel
theorem dX10_heir_18 : decode cX10_heir 18 = .ok (.ireturn, 1) := by decide +kernel
theorem dX10_heir_19 : decode cX10_heir 19 = .ok (.aload_n 0, 1) := by decide +kernel
theorem dX10_heir_20 : decode cX10_heir 20 = .ok (.getfield 16, 3) := by decide +kernel
theorem dX10_heir_23 : decode cX10_heir 23 = .ok (.aload_n 0, 1) := by decide +kernel
theorem dX10_heir_24 : decode cX10_heir 24 = .ok (.getfield 10, 3) := by decide +kernel
theorem dX10_heir_27 : decode cX10_heir 27 = .ok (.invokevirtual 74, 3) := by decide +kernel
theorem dX10_heir_30 : decode cX10_heir 30 = .ok (.aload_n 0, 1) := by decide +kernel
theorem dX10_heir_31 : decode cX10_heir 31 = .ok (.getfield 16, 3) := by decide +kernel
theorem dX10_heir_34 : decode cX10_heir 34 = .ok (.invokevirtual 276, 3) := by decide +kernel
theorem dX10_heir_37 : decode cX10_heir 37 = .ok (.iconst 1, 1) := by decide +kernel
theorem dX10_heir_38 : decode cX10_heir 38 = .ok (.iload_n 1, 1) := by decide +kernel
theorem dX10_heir_39 : decode cX10_heir 39 = .ok (.ishl, 1) := by decide +kernel
theorem dX10_heir_40 : decode cX10_heir 40 = .ok (.iconst (-1), 1) := by decide +kernel
theorem dX10_heir_41 : decode cX10_heir 41 = .ok (.ixor, 1) := by decide +kernel
theorem dX10_heir_42 : decode cX10_heir 42 = .ok (.iand, 1) := by decide +kernel
theorem dX10_heir_43 : decode cX10_heir 43 = .ok (.istore_n 3, 1) := by decide +kernel
theorem dX10_heir_44 : decode cX10_heir 44 = .ok (.aload_n 0, 1) := by decide +kernel
theorem dX10_heir_45 : decode cX10_heir 45 = .ok (.getfield 16, 3) := by decide +kernel
theorem dX10_heir_48 : decode cX10_heir 48 = .ok (.aload_n 0, 1) := by decide +kernel
theorem dX10_heir_49 : decode cX10_heir 49 = .ok (.getfield 16, 3) := by decide +kernel
theorem dX10_heir_52 : decode cX10_heir 52 = .ok (.iload_n 1, 1) := by decide +kernel
theorem dX10_heir_53 : decode cX10_heir 53 = .ok (.invokevirtual 106, 3) := by decide +kernel
theorem dX10_heir_56 : decode cX10_heir 56 = .ok (.getfield 113, 3) := by decide +kernel
theorem dX10_heir_59 : decode cX10_heir 59 = .ok (.iload_n 3, 1) := by decide +kernel
theorem dX10_heir_60 : decode cX10_heir 60 = .ok (.invokevirtual 343, 3) := by decide +kernel
theorem dX10_heir_63 : decode cX10_heir 63 = .ok (.aload_n 0, 1) := by decide +kernel
theorem dX10_heir_64 : decode cX10_heir 64 = .ok (.getfield 16, 3) := by decide +kernel
theorem dX10_heir_67 : decode cX10_heir 67 = .ok (.invokevirtual 346, 3) := by decide +kernel
theorem dX10_heir_70 : decode cX10_heir 70 = .ok (.bipush (-9), 2) := by decide +kernel
theorem dX10_heir_72 : decode cX10_heir 72 = .ok (.istore 4, 2) := by decide +kernel
theorem dX10_heir_74 : decode cX10_heir 74 = .ok (.iconst 0, 1) := by decide +kernel
theorem dX10_heir_75 : decode cX10_heir 75 = .ok (.istore 5, 2) := by decide +kernel
theorem dX10_heir_77 : decode cX10_heir 77 = .ok (.iload 5, 2) := by decide +kernel
theorem dX10_heir_79 : decode cX10_heir 79 = .ok (.aload_n 0, 1) := by decide +kernel
theorem dX10_heir_80 : decode cX10_heir 80 = .ok (.getfield 16, 3) := by decide +kernel
theorem dX10_heir_83 : decode cX10_heir 83 = .ok (.getfield 255, 3) := by decide +kernel
theorem dX10_heir_86 : decode cX10_heir 86 = .ok (.if_icmp .ge 34, 3) := by decide +kernel
theorem dX10_heir_89 : decode cX10_heir 89 = .ok (.iload 5, 2) := by decide +kernel
theorem dX10_heir_91 : decode cX10_heir 91 = .ok (.iload_n 1, 1) := by decide +kernel
theorem dX10_heir_92 : decode cX10_heir 92 = .ok (.if_icmp .eq 22, 3) := by decide +kernel
theorem dX10_heir_95 : decode cX10_heir 95 = .ok (.iload 4, 2) := by decide +kernel
theorem dX10_heir_97 : decode cX10_heir 97 = .ok (.aload_n 0, 1) := by decide +kernel
theorem dX10_heir_98 : decode cX10_heir 98 = .ok (.getfield 16, 3) := by decide +kernel
theorem dX10_heir_101 : decode cX10_heir 101 = .ok (.iload 5, 2) := by decide +kernel
theorem dX10_heir_103 : decode cX10_heir 103 = .ok (.invokevirtual 106, 3) := by decide +kernel
theorem dX10_heir_106 : decode cX10_heir 106 = .ok (.invokevirtual 122, 3) := by decide +kernel
theorem dX10_heir_109 : decode cX10_heir 109 = .ok (.invokestatic 349, 3) := by decide +kernel
theorem dX10_heir_112 : decode cX10_heir 112 = .ok (.istore 4, 2) := by decide +kernel
theorem dX10_heir_114 : decode cX10_heir 114 = .ok (.iinc 5 1, 3) := by decide +kernel
theorem dX10_heir_117 : decode cX10_heir 117 = .ok (.goto (-40), 3) := by decide +kernel
theorem dX10_heir_120 : decode cX10_heir 120 = .ok (.iload 4, 2) := by decide +kernel
theorem dX10_heir_122 : decode cX10_heir 122 = .ok (.ireturn, 1) := by decide +kernel
theorem dX10_rank_0 : decode cX10_rank 0 = .ok (.iload_n 1, 1) := by decide +kernel
theorem dX10_rank_1 : decode cX10_rank 1 = .ok (.ifCond .ge 12, 3) := by decide +kernel
theorem dX10_rank_4 : decode cX10_rank 4 = .ok (.aload_n 0, 1) := by decide +kernel
theorem dX10_rank_5 : decode cX10_rank 5 = .ok (.bipush (-4), 2) := by decide +kernel
theorem dX10_rank_7 : decode cX10_rank 7 = .ok (.invokevirtual 67, 3) := by decide +kernel
theorem dX10_rank_10 : decode cX10_rank 10 = .ok (.goto 8, 3) := by decide +kernel
theorem dX10_rank_13 : decode cX10_rank 13 = .ok (.aload_n 0, 1) := by decide +kernel
theorem dX10_rank_14 : decode cX10_rank 14 = .ok (.iload_n 1, 1) := by decide +kernel
theorem dX10_rank_15 : decode cX10_rank 15 = .ok (.invokevirtual 328, 3) := by decide +kernel
theorem dX10_rank_18 : decode cX10_rank 18 = .ok (.ireturn, 1) := by decide +kernel
theorem dX10_half_0 : decode cX10_half 0 = .ok (.aload_n 0, 1) := by decide +kernel
theorem dX10_half_1 : decode cX10_half 1 = .ok (.getfield 16, 3) := by decide +kernel
theorem dX10_half_4 : decode cX10_half 4 = .ok (.aload_n 0, 1) := by decide +kernel
theorem dX10_half_5 : decode cX10_half 5 = .ok (.getfield 10, 3) := by decide +kernel
theorem dX10_half_8 : decode cX10_half 8 = .ok (.invokevirtual 74, 3) := by decide +kernel
theorem dX10_half_11 : decode cX10_half 11 = .ok (.aload_n 0, 1) := by decide +kernel
theorem dX10_half_12 : decode cX10_half 12 = .ok (.getfield 16, 3) := by decide +kernel
theorem dX10_half_15 : decode cX10_half 15 = .ok (.invokevirtual 352, 3) := by decide +kernel
theorem dX10_half_18 : decode cX10_half 18 = .ok (.istore_n 1, 1) := by decide +kernel
theorem dX10_half_19 : decode cX10_half 19 = .ok (.iconst 0, 1) := by decide +kernel
theorem dX10_half_20 : decode cX10_half 20 = .ok (.istore_n 2, 1) := by decide +kernel
theorem dX10_half_21 : decode cX10_half 21 = .ok (.iload_n 2, 1) := by decide +kernel
theorem dX10_half_22 : decode cX10_half 22 = .ok (.bipush 100, 2) := by decide +kernel
theorem dX10_half_24 : decode cX10_half 24 = .ok (.if_icmp .gt 31, 3) := by decide +kernel
theorem dX10_half_27 : decode cX10_half 27 = .ok (.iconst 2, 1) := by decide +kernel
theorem dX10_half_28 : decode cX10_half 28 = .ok (.aload_n 0, 1) := by decide +kernel
theorem dX10_half_29 : decode cX10_half 29 = .ok (.getfield 16, 3) := by decide +kernel
theorem dX10_half_32 : decode cX10_half 32 = .ok (.invokevirtual 352, 3) := by decide +kernel
theorem dX10_half_35 : decode cX10_half 35 = .ok (.imul, 1) := by decide +kernel
theorem dX10_half_36 : decode cX10_half 36 = .ok (.iload_n 1, 1) := by decide +kernel
theorem dX10_half_37 : decode cX10_half 37 = .ok (.if_icmp .gt 5, 3) := by decide +kernel
theorem dX10_half_40 : decode cX10_half 40 = .ok (.iload_n 2, 1) := by decide +kernel
theorem dX10_half_41 : decode cX10_half 41 = .ok (.ireturn, 1) := by decide +kernel
theorem dX10_half_42 : decode cX10_half 42 = .ok (.aload_n 0, 1) := by decide +kernel
theorem dX10_half_43 : decode cX10_half 43 = .ok (.getfield 16, 3) := by decide +kernel
theorem dX10_half_46 : decode cX10_half 46 = .ok (.invokevirtual 341, 3) := by decide +kernel
theorem dX10_half_49 : decode cX10_half 49 = .ok (.iinc 2 1, 3) := by decide +kernel
theorem dX10_half_52 : decode cX10_half 52 = .ok (.goto (-31), 3) := by decide +kernel
theorem dX10_half_55 : decode cX10_half 55 = .ok (.bipush (-9), 2) := by decide +kernel
theorem dX10_half_57 : decode cX10_half 57 = .ok (.ireturn, 1) := by decide +kernel
theorem dX10_row_0 : decode cX10_row 0 = .ok (.iload_n 1, 1) := by decide +kernel
theorem dX10_row_1 : decode cX10_row 1 = .ok (.iconst 0, 1) := by decide +kernel
theorem dX10_row_2 : decode cX10_row 2 = .ok (.bipush 99, 2) := by decide +kernel
theorem dX10_row_4 : decode cX10_row 4 = .ok (.invokestatic 59, 3) := by decide +kernel
theorem dX10_row_7 : decode cX10_row 7 = .ok (.istore_n 2, 1) := by decide +kernel
theorem dX10_row_8 : decode cX10_row 8 = .ok (.iload_n 2, 1) := by decide +kernel
theorem dX10_row_9 : decode cX10_row 9 = .ok (.ifCond .ne 18, 3) := by decide +kernel
theorem dX10_row_12 : decode cX10_row 12 = .ok (.aload_n 0, 1) := by decide +kernel
theorem dX10_row_13 : decode cX10_row 13 = .ok (.getfield 285, 3) := by decide +kernel
theorem dX10_row_16 : decode cX10_row 16 = .ok (.aload_n 0, 1) := by decide +kernel
theorem dX10_row_17 : decode cX10_row 17 = .ok (.getfield 36, 3) := by decide +kernel
theorem dX10_row_20 : decode cX10_row 20 = .ok (.arraylength, 1) := by decide +kernel
theorem dX10_row_21 : decode cX10_row 21 = .ok (.if_icmp .lt 6, 3) := by decide +kernel
theorem dX10_row_24 : decode cX10_row 24 = .ok (.bipush (-6), 2) := by decide +kernel
theorem dX10_row_26 : decode cX10_row 26 = .ok (.istore_n 2, 1) := by decide +kernel
theorem dX10_row_27 : decode cX10_row 27 = .ok (.iload_n 2, 1) := by decide +kernel
theorem dX10_row_28 : decode cX10_row 28 = .ok (.ifCond .eq 9, 3) := by decide +kernel
theorem dX10_row_31 : decode cX10_row 31 = .ok (.aload_n 0, 1) := by decide +kernel
theorem dX10_row_32 : decode cX10_row 32 = .ok (.iload_n 2, 1) := by decide +kernel
theorem dX10_row_33 : decode cX10_row 33 = .ok (.invokevirtual 67, 3) := by decide +kernel
theorem dX10_row_36 : decode cX10_row 36 = .ok (.ireturn, 1) := by decide +kernel
theorem dX10_row_37 : decode cX10_row 37 = .ok (.aload_n 0, 1) := by decide +kernel
theorem dX10_row_38 : decode cX10_row 38 = .ok (.getfield 285, 3) := by decide +kernel
theorem dX10_row_41 : decode cX10_row 41 = .ok (.aload_n 0, 1) := by decide +kernel
theorem dX10_row_42 : decode cX10_row 42 = .ok (.getfield 36, 3) := by decide +kernel
theorem dX10_row_45 : decode cX10_row 45 = .ok (.arraylength, 1) := by decide +kernel
theorem dX10_row_46 : decode cX10_row 46 = .ok (.if_icmp .ge 13, 3) := by decide +kernel
theorem dX10_row_49 : decode cX10_row 49 = .ok (.aload_n 0, 1) := by decide +kernel
theorem dX10_row_50 : decode cX10_row 50 = .ok (.getfield 36, 3) := by decide +kernel
theorem dX10_row_53 : decode cX10_row 53 = .ok (.aload_n 0, 1) := by decide +kernel
theorem dX10_row_54 : decode cX10_row 54 = .ok (.getfield 285, 3) := by decide +kernel
theorem dX10_row_57 : decode cX10_row 57 = .ok (.iload_n 1, 1) := by decide +kernel
theorem dX10_row_58 : decode cX10_row 58 = .ok (.iastore, 1) := by decide +kernel
theorem dX10_row_59 : decode cX10_row 59 = .ok (.aload_n 0, 1) := by decide +kernel
theorem dX10_row_60 : decode cX10_row 60 = .ok (.dup, 1) := by decide +kernel
theorem dX10_row_61 : decode cX10_row 61 = .ok (.getfield 285, 3) := by decide +kernel
theorem dX10_row_64 : decode cX10_row 64 = .ok (.iconst 1, 1) := by decide +kernel
theorem dX10_row_65 : decode cX10_row 65 = .ok (.iadd, 1) := by decide +kernel
theorem dX10_row_66 : decode cX10_row 66 = .ok (.putfield 285, 3) := by decide +kernel
theorem dX10_row_69 : decode cX10_row 69 = .ok (.aload_n 0, 1) := by decide +kernel
theorem dX10_row_70 : decode cX10_row 70 = .ok (.getfield 285, 3) := by decide +kernel
theorem dX10_row_73 : decode cX10_row 73 = .ok (.ireturn, 1) := by decide +kernel
theorem dX10_judge_0 : decode cX10_judge 0 = .ok (.aload_n 0, 1) := by decide +kernel
theorem dX10_judge_1 : decode cX10_judge 1 = .ok (.getfield 10, 3) := by decide +kernel
theorem dX10_judge_4 : decode cX10_judge 4 = .ok (.iload_n 1, 1) := by decide +kernel
theorem dX10_judge_5 : decode cX10_judge 5 = .ok (.invokevirtual 99, 3) := by decide +kernel
theorem dX10_judge_8 : decode cX10_judge 8 = .ok (.istore_n 2, 1) := by decide +kernel
theorem dX10_judge_9 : decode cX10_judge 9 = .ok (.iload_n 2, 1) := by decide +kernel
theorem dX10_judge_10 : decode cX10_judge 10 = .ok (.ifCond .eq 9, 3) := by decide +kernel
theorem dX10_judge_13 : decode cX10_judge 13 = .ok (.aload_n 0, 1) := by decide +kernel
theorem dX10_judge_14 : decode cX10_judge 14 = .ok (.iload_n 2, 1) := by decide +kernel
theorem dX10_judge_15 : decode cX10_judge 15 = .ok (.invokevirtual 67, 3) := by decide +kernel
theorem dX10_judge_18 : decode cX10_judge 18 = .ok (.ireturn, 1) := by decide +kernel
theorem dX10_judge_19 : decode cX10_judge 19 = .ok (.aload_n 0, 1) := by decide +kernel
theorem dX10_judge_20 : decode cX10_judge 20 = .ok (.invokevirtual 355, 3) := by decide +kernel
theorem dX10_judge_23 : decode cX10_judge 23 = .ok (.istore_n 3, 1) := by decide +kernel
theorem dX10_judge_24 : decode cX10_judge 24 = .ok (.aload_n 0, 1) := by decide +kernel
theorem dX10_judge_25 : decode cX10_judge 25 = .ok (.getfield 46, 3) := by decide +kernel
theorem dX10_judge_28 : decode cX10_judge 28 = .ok (.aload_n 0, 1) := by decide +kernel
theorem dX10_judge_29 : decode cX10_judge 29 = .ok (.getfield 10, 3) := by decide +kernel
theorem dX10_judge_32 : decode cX10_judge 32 = .ok (.iload_n 1, 1) := by decide +kernel
theorem dX10_judge_33 : decode cX10_judge 33 = .ok (.invokevirtual 106, 3) := by decide +kernel
theorem dX10_judge_36 : decode cX10_judge 36 = .ok (.invokevirtual 233, 3) := by decide +kernel
theorem dX10_judge_39 : decode cX10_judge 39 = .ok (.iconst 0, 1) := by decide +kernel
theorem dX10_judge_40 : decode cX10_judge 40 = .ok (.istore 4, 2) := by decide +kernel
theorem dX10_judge_42 : decode cX10_judge 42 = .ok (.iload 4, 2) := by decide +kernel
theorem dX10_judge_44 : decode cX10_judge 44 = .ok (.iload_n 3, 1) := by decide +kernel
theorem dX10_judge_45 : decode cX10_judge 45 = .ok (.if_icmp .ge 54, 3) := by decide +kernel
theorem dX10_judge_48 : decode cX10_judge 48 = .ok (.aload_n 0, 1) := by decide +kernel
theorem dX10_judge_49 : decode cX10_judge 49 = .ok (.iload 4, 2) := by decide +kernel
theorem dX10_judge_51 : decode cX10_judge 51 = .ok (.aload_n 0, 1) := by decide +kernel
theorem dX10_judge_52 : decode cX10_judge 52 = .ok (.getfield 46, 3) := by decide +kernel
theorem dX10_judge_55 : decode cX10_judge 55 = .ok (.invokevirtual 122, 3) := by decide +kernel
theorem dX10_judge_58 : decode cX10_judge 58 = .ok (.invokevirtual 358, 3) := by decide +kernel
theorem dX10_judge_61 : decode cX10_judge 61 = .ok (.ifCond .ne 6, 3) := by decide +kernel
theorem dX10_judge_64 : decode cX10_judge 64 = .ok (.iload 4, 2) := by decide +kernel
theorem dX10_judge_66 : decode cX10_judge 66 = .ok (.ireturn, 1) := by decide +kernel
theorem dX10_judge_67 : decode cX10_judge 67 = .ok (.aload_n 0, 1) := by decide +kernel
theorem dX10_judge_68 : decode cX10_judge 68 = .ok (.getfield 46, 3) := by decide +kernel
theorem dX10_judge_71 : decode cX10_judge 71 = .ok (.aload_n 0, 1) := by decide +kernel
theorem dX10_judge_72 : decode cX10_judge 72 = .ok (.getfield 10, 3) := by decide +kernel
theorem dX10_judge_75 : decode cX10_judge 75 = .ok (.getfield 239, 3) := by decide +kernel
theorem dX10_judge_78 : decode cX10_judge 78 = .ok (.aload_n 0, 1) := by decide +kernel
theorem dX10_judge_79 : decode cX10_judge 79 = .ok (.getfield 10, 3) := by decide +kernel
theorem dX10_judge_82 : decode cX10_judge 82 = .ok (.getfield 242, 3) := by decide +kernel
theorem dX10_judge_85 : decode cX10_judge 85 = .ok (.iload 4, 2) := by decide +kernel
theorem dX10_judge_87 : decode cX10_judge 87 = .ok (.iadd, 1) := by decide +kernel
theorem dX10_judge_88 : decode cX10_judge 88 = .ok (.iconst 1, 1) := by decide +kernel
theorem dX10_judge_89 : decode cX10_judge 89 = .ok (.iadd, 1) := by decide +kernel
theorem dX10_judge_90 : decode cX10_judge 90 = .ok (.invokevirtual 331, 3) := by decide +kernel
theorem dX10_judge_93 : decode cX10_judge 93 = .ok (.iinc 4 1, 3) := by decide +kernel
theorem dX10_judge_96 : decode cX10_judge 96 = .ok (.goto (-54), 3) := by decide +kernel
theorem dX10_judge_99 : decode cX10_judge 99 = .ok (.bipush (-9), 2) := by decide +kernel
theorem dX10_judge_101 : decode cX10_judge 101 = .ok (.ireturn, 1) := by decide +kernel
theorem dX10_clear_0 : decode cX10_clear 0 = .ok (.aload_n 0, 1) := by decide +kernel
theorem dX10_clear_1 : decode cX10_clear 1 = .ok (.getfield 285, 3) := by decide +kernel
theorem dX10_clear_4 : decode cX10_clear 4 = .ok (.istore_n 1, 1) := by decide +kernel
theorem dX10_clear_5 : decode cX10_clear 5 = .ok (.aload_n 0, 1) := by decide +kernel
theorem dX10_clear_6 : decode cX10_clear 6 = .ok (.iconst 0, 1) := by decide +kernel
theorem dX10_clear_7 : decode cX10_clear 7 = .ok (.putfield 285, 3) := by decide +kernel
theorem dX10_clear_10 : decode cX10_clear 10 = .ok (.iload_n 1, 1) := by decide +kernel
theorem dX10_clear_11 : decode cX10_clear 11 = .ok (.ireturn, 1) := by decide +kernel
theorem dX10_lots_0 : decode cX10_lots 0 = .ok (.iload_n 1, 1) := by decide +kernel
theorem dX10_lots_1 : decode cX10_lots 1 = .ok (.iconst 1, 1) := by decide +kernel
theorem dX10_lots_2 : decode cX10_lots 2 = .ok (.bipush 20, 2) := by decide +kernel
theorem dX10_lots_4 : decode cX10_lots 4 = .ok (.invokestatic 59, 3) := by decide +kernel
theorem dX10_lots_7 : decode cX10_lots 7 = .ok (.istore 4, 2) := by decide +kernel
theorem dX10_lots_9 : decode cX10_lots 9 = .ok (.iload 4, 2) := by decide +kernel
theorem dX10_lots_11 : decode cX10_lots 11 = .ok (.ifCond .ne 10, 3) := by decide +kernel
theorem dX10_lots_14 : decode cX10_lots 14 = .ok (.iload_n 3, 1) := by decide +kernel
theorem dX10_lots_15 : decode cX10_lots 15 = .ok (.iconst 1, 1) := by decide +kernel
theorem dX10_lots_16 : decode cX10_lots 16 = .ok (.invokestatic 102, 3) := by decide +kernel
theorem dX10_lots_19 : decode cX10_lots 19 = .ok (.istore 4, 2) := by decide +kernel
theorem dX10_lots_21 : decode cX10_lots 21 = .ok (.iload 4, 2) := by decide +kernel
theorem dX10_lots_23 : decode cX10_lots 23 = .ok (.ifCond .eq 10, 3) := by decide +kernel
theorem dX10_lots_26 : decode cX10_lots 26 = .ok (.aload_n 0, 1) := by decide +kernel
theorem dX10_lots_27 : decode cX10_lots 27 = .ok (.iload 4, 2) := by decide +kernel
theorem dX10_lots_29 : decode cX10_lots 29 = .ok (.invokevirtual 67, 3) := by decide +kernel
theorem dX10_lots_32 : decode cX10_lots 32 = .ok (.ireturn, 1) := by decide +kernel
theorem dX10_lots_33 : decode cX10_lots 33 = .ok (.iload_n 2, 1) := by decide +kernel
theorem dX10_lots_34 : decode cX10_lots 34 = .ok (.istore 5, 2) := by decide +kernel
theorem dX10_lots_36 : decode cX10_lots 36 = .ok (.iconst 0, 1) := by decide +kernel
theorem dX10_lots_37 : decode cX10_lots 37 = .ok (.istore 6, 2) := by decide +kernel
theorem dX10_lots_39 : decode cX10_lots 39 = .ok (.iconst 0, 1) := by decide +kernel
theorem dX10_lots_40 : decode cX10_lots 40 = .ok (.istore 7, 2) := by decide +kernel
theorem dX10_lots_42 : decode cX10_lots 42 = .ok (.iconst 0, 1) := by decide +kernel
theorem dX10_lots_43 : decode cX10_lots 43 = .ok (.istore 8, 2) := by decide +kernel
theorem dX10_lots_45 : decode cX10_lots 45 = .ok (.iload 8, 2) := by decide +kernel
theorem dX10_lots_47 : decode cX10_lots 47 = .ok (.iload_n 1, 1) := by decide +kernel
theorem dX10_lots_48 : decode cX10_lots 48 = .ok (.if_icmp .ge 114, 3) := by decide +kernel
theorem dX10_lots_51 : decode cX10_lots 51 = .ok (.aload_n 0, 1) := by decide +kernel
theorem dX10_lots_52 : decode cX10_lots 52 = .ok (.getfield 16, 3) := by decide +kernel
theorem dX10_lots_55 : decode cX10_lots 55 = .ok (.aload_n 0, 1) := by decide +kernel
theorem dX10_lots_56 : decode cX10_lots 56 = .ok (.getfield 10, 3) := by decide +kernel
theorem dX10_lots_59 : decode cX10_lots 59 = .ok (.invokevirtual 74, 3) := by decide +kernel
theorem dX10_lots_62 : decode cX10_lots 62 = .ok (.iload 5, 2) := by decide +kernel
theorem dX10_lots_64 : decode cX10_lots 64 = .ok (.invokestatic 362, 3) := by decide +kernel
theorem dX10_lots_67 : decode cX10_lots 67 = .ok (.istore 5, 2) := by decide +kernel
theorem dX10_lots_69 : decode cX10_lots 69 = .ok (.aload_n 0, 1) := by decide +kernel
theorem dX10_lots_70 : decode cX10_lots 70 = .ok (.getfield 16, 3) := by decide +kernel
theorem dX10_lots_73 : decode cX10_lots 73 = .ok (.bipush 10, 2) := by decide +kernel
theorem dX10_lots_75 : decode cX10_lots 75 = .ok (.iload 5, 2) := by decide +kernel
theorem dX10_lots_77 : decode cX10_lots 77 = .ok (.invokestatic 365, 3) := by decide +kernel
theorem dX10_lots_80 : decode cX10_lots 80 = .ok (.putfield 239, 3) := by decide +kernel
theorem dX10_lots_83 : decode cX10_lots 83 = .ok (.iconst 0, 1) := by decide +kernel
theorem dX10_lots_84 : decode cX10_lots 84 = .ok (.istore 9, 2) := by decide +kernel
theorem dX10_lots_86 : decode cX10_lots 86 = .ok (.iload 9, 2) := by decide +kernel
theorem dX10_lots_88 : decode cX10_lots 88 = .ok (.aload_n 0, 1) := by decide +kernel
theorem dX10_lots_89 : decode cX10_lots 89 = .ok (.getfield 16, 3) := by decide +kernel
theorem dX10_lots_92 : decode cX10_lots 92 = .ok (.getfield 255, 3) := by decide +kernel
theorem dX10_lots_95 : decode cX10_lots 95 = .ok (.if_icmp .ge 35, 3) := by decide +kernel
theorem dX10_lots_98 : decode cX10_lots 98 = .ok (.iload 5, 2) := by decide +kernel
theorem dX10_lots_100 : decode cX10_lots 100 = .ok (.invokestatic 362, 3) := by decide +kernel
theorem dX10_lots_103 : decode cX10_lots 103 = .ok (.istore 5, 2) := by decide +kernel
theorem dX10_lots_105 : decode cX10_lots 105 = .ok (.aload_n 0, 1) := by decide +kernel
theorem dX10_lots_106 : decode cX10_lots 106 = .ok (.getfield 16, 3) := by decide +kernel
theorem dX10_lots_109 : decode cX10_lots 109 = .ok (.iload 9, 2) := by decide +kernel
theorem dX10_lots_111 : decode cX10_lots 111 = .ok (.invokevirtual 106, 3) := by decide +kernel
theorem dX10_lots_114 : decode cX10_lots 114 = .ok (.bipush 10, 2) := by decide +kernel
theorem dX10_lots_116 : decode cX10_lots 116 = .ok (.iload 5, 2) := by decide +kernel
theorem dX10_lots_118 : decode cX10_lots 118 = .ok (.invokestatic 365, 3) := by decide +kernel
theorem dX10_lots_121 : decode cX10_lots 121 = .ok (.putfield 116, 3) := by decide +kernel
theorem dX10_lots_124 : decode cX10_lots 124 = .ok (.iinc 9 1, 3) := by decide +kernel
theorem dX10_lots_127 : decode cX10_lots 127 = .ok (.goto (-41), 3) := by decide +kernel
theorem dX10_lots_130 : decode cX10_lots 130 = .ok (.iload 6, 2) := by decide +kernel
theorem dX10_lots_132 : decode cX10_lots 132 = .ok (.aload_n 0, 1) := by decide +kernel
theorem dX10_lots_133 : decode cX10_lots 133 = .ok (.getfield 16, 3) := by decide +kernel
theorem dX10_lots_136 : decode cX10_lots 136 = .ok (.bipush 50, 2) := by decide +kernel
theorem dX10_lots_138 : decode cX10_lots 138 = .ok (.invokevirtual 181, 3) := by decide +kernel
theorem dX10_lots_141 : decode cX10_lots 141 = .ok (.iadd, 1) := by decide +kernel
theorem dX10_lots_142 : decode cX10_lots 142 = .ok (.istore 6, 2) := by decide +kernel
theorem dX10_lots_144 : decode cX10_lots 144 = .ok (.iload 7, 2) := by decide +kernel
theorem dX10_lots_146 : decode cX10_lots 146 = .ok (.aload_n 0, 1) := by decide +kernel
theorem dX10_lots_147 : decode cX10_lots 147 = .ok (.getfield 16, 3) := by decide +kernel
theorem dX10_lots_150 : decode cX10_lots 150 = .ok (.invokevirtual 368, 3) := by decide +kernel
theorem dX10_lots_153 : decode cX10_lots 153 = .ok (.iadd, 1) := by decide +kernel
theorem dX10_lots_154 : decode cX10_lots 154 = .ok (.istore 7, 2) := by decide +kernel
theorem dX10_lots_156 : decode cX10_lots 156 = .ok (.iinc 8 1, 3) := by decide +kernel
theorem dX10_lots_159 : decode cX10_lots 159 = .ok (.goto (-114), 3) := by decide +kernel
theorem dX10_lots_162 : decode cX10_lots 162 = .ok (.iload_n 3, 1) := by decide +kernel
theorem dX10_lots_163 : decode cX10_lots 163 = .ok (.ifCond .ne 8, 3) := by decide +kernel
theorem dX10_lots_166 : decode cX10_lots 166 = .ok (.iload 6, 2) := by decide +kernel
theorem dX10_lots_168 : decode cX10_lots 168 = .ok (.goto 5, 3) := by decide +kernel
theorem dX10_lots_171 : decode cX10_lots 171 = .ok (.iload 7, 2) := by decide +kernel
theorem dX10_lots_173 : decode cX10_lots 173 = .ok (.ireturn, 1) := by decide +kernel
theorem dX10_image_0 : decode cX10_image 0 = .ok (.aload_n 0, 1) := by decide +kernel
theorem dX10_image_1 : decode cX10_image 1 = .ok (.getfield 19, 3) := by decide +kernel
theorem dX10_image_4 : decode cX10_image 4 = .ok (.aload_n 0, 1) := by decide +kernel
theorem dX10_image_5 : decode cX10_image 5 = .ok (.getfield 10, 3) := by decide +kernel
theorem dX10_image_8 : decode cX10_image 8 = .ok (.invokevirtual 74, 3) := by decide +kernel
theorem dX10_image_11 : decode cX10_image 11 = .ok (.aload_n 0, 1) := by decide +kernel
theorem dX10_image_12 : decode cX10_image 12 = .ok (.iconst 1, 1) := by decide +kernel
theorem dX10_image_13 : decode cX10_image 13 = .ok (.putfield 371, 3) := by decide +kernel
theorem dX10_image_16 : decode cX10_image 16 = .ok (.aload_n 0, 1) := by decide +kernel
theorem dX10_image_17 : decode cX10_image 17 = .ok (.getfield 10, 3) := by decide +kernel
theorem dX10_image_20 : decode cX10_image 20 = .ok (.getfield 242, 3) := by decide +kernel
theorem dX10_image_23 : decode cX10_image 23 = .ok (.ireturn, 1) := by decide +kernel
theorem dX10_restore_0 : decode cX10_restore 0 = .ok (.aload_n 0, 1) := by decide +kernel
theorem dX10_restore_1 : decode cX10_restore 1 = .ok (.getfield 371, 3) := by decide +kernel
theorem dX10_restore_4 : decode cX10_restore 4 = .ok (.ifCond .ne 10, 3) := by decide +kernel
theorem dX10_restore_7 : decode cX10_restore 7 = .ok (.aload_n 0, 1) := by decide +kernel
theorem dX10_restore_8 : decode cX10_restore 8 = .ok (.bipush (-3), 2) := by decide +kernel
theorem dX10_restore_10 : decode cX10_restore 10 = .ok (.invokevirtual 67, 3) := by decide +kernel
theorem dX10_restore_13 : decode cX10_restore 13 = .ok (.ireturn, 1) := by decide +kernel
theorem dX10_restore_14 : decode cX10_restore 14 = .ok (.aload_n 0, 1) := by decide +kernel
theorem dX10_restore_15 : decode cX10_restore 15 = .ok (.getfield 10, 3) := by decide +kernel
theorem dX10_restore_18 : decode cX10_restore 18 = .ok (.aload_n 0, 1) := by decide +kernel
theorem dX10_restore_19 : decode cX10_restore 19 = .ok (.getfield 19, 3) := by decide +kernel
theorem dX10_restore_22 : decode cX10_restore 22 = .ok (.invokevirtual 74, 3) := by decide +kernel
theorem dX10_restore_25 : decode cX10_restore 25 = .ok (.aload_n 0, 1) := by decide +kernel
theorem dX10_restore_26 : decode cX10_restore 26 = .ok (.getfield 25, 3) := by decide +kernel
theorem dX10_restore_29 : decode cX10_restore 29 = .ok (.invokevirtual 96, 3) := by decide +kernel
theorem dX10_restore_32 : decode cX10_restore 32 = .ok (.aload_n 0, 1) := by decide +kernel
theorem dX10_restore_33 : decode cX10_restore 33 = .ok (.getfield 10, 3) := by decide +kernel
theorem dX10_restore_36 : decode cX10_restore 36 = .ok (.getfield 242, 3) := by decide +kernel
theorem dX10_restore_39 : decode cX10_restore 39 = .ok (.ireturn, 1) := by decide +kernel
theorem dX10_count_0 : decode cX10_count 0 = .ok (.iload_n 1, 1) := by decide +kernel
theorem dX10_count_1 : decode cX10_count 1 = .ok (.tableswitch 139 0 9 #[55, 63, 71, 79, 87, 102, 110, 118, 126, 131], 55) := by decide +kernel
theorem dX10_count_56 : decode cX10_count 56 = .ok (.aload_n 0, 1) := by decide +kernel
theorem dX10_count_57 : decode cX10_count 57 = .ok (.getfield 10, 3) := by decide +kernel
theorem dX10_count_60 : decode cX10_count 60 = .ok (.getfield 255, 3) := by decide +kernel
theorem dX10_count_63 : decode cX10_count 63 = .ok (.ireturn, 1) := by decide +kernel
theorem dX10_count_64 : decode cX10_count 64 = .ok (.aload_n 0, 1) := by decide +kernel
theorem dX10_count_65 : decode cX10_count 65 = .ok (.getfield 10, 3) := by decide +kernel
theorem dX10_count_68 : decode cX10_count 68 = .ok (.getfield 220, 3) := by decide +kernel
theorem dX10_count_71 : decode cX10_count 71 = .ok (.ireturn, 1) := by decide +kernel
theorem dX10_count_72 : decode cX10_count 72 = .ok (.aload_n 0, 1) := by decide +kernel
theorem dX10_count_73 : decode cX10_count 73 = .ok (.getfield 10, 3) := by decide +kernel
theorem dX10_count_76 : decode cX10_count 76 = .ok (.getfield 242, 3) := by decide +kernel
theorem dX10_count_79 : decode cX10_count 79 = .ok (.ireturn, 1) := by decide +kernel
theorem dX10_count_80 : decode cX10_count 80 = .ok (.aload_n 0, 1) := by decide +kernel
theorem dX10_count_81 : decode cX10_count 81 = .ok (.getfield 10, 3) := by decide +kernel
theorem dX10_count_84 : decode cX10_count 84 = .ok (.getfield 239, 3) := by decide +kernel
theorem dX10_count_87 : decode cX10_count 87 = .ok (.ireturn, 1) := by decide +kernel
theorem dX10_count_88 : decode cX10_count 88 = .ok (.aload_n 0, 1) := by decide +kernel
theorem dX10_count_89 : decode cX10_count 89 = .ok (.getfield 10, 3) := by decide +kernel
theorem dX10_count_92 : decode cX10_count 92 = .ok (.aload_n 0, 1) := by decide +kernel
theorem dX10_count_93 : decode cX10_count 93 = .ok (.getfield 10, 3) := by decide +kernel
theorem dX10_count_96 : decode cX10_count 96 = .ok (.invokevirtual 276, 3) := by decide +kernel
theorem dX10_count_99 : decode cX10_count 99 = .ok (.invokevirtual 279, 3) := by decide +kernel
theorem dX10_count_102 : decode cX10_count 102 = .ok (.ireturn, 1) := by decide +kernel
theorem dX10_count_103 : decode cX10_count 103 = .ok (.aload_n 0, 1) := by decide +kernel
theorem dX10_count_104 : decode cX10_count 104 = .ok (.getfield 10, 3) := by decide +kernel
theorem dX10_count_107 : decode cX10_count 107 = .ok (.invokevirtual 352, 3) := by decide +kernel
theorem dX10_count_110 : decode cX10_count 110 = .ok (.ireturn, 1) := by decide +kernel
theorem dX10_count_111 : decode cX10_count 111 = .ok (.aload_n 0, 1) := by decide +kernel
theorem dX10_count_112 : decode cX10_count 112 = .ok (.getfield 10, 3) := by decide +kernel
theorem dX10_count_115 : decode cX10_count 115 = .ok (.getfield 212, 3) := by decide +kernel
theorem dX10_count_118 : decode cX10_count 118 = .ok (.ireturn, 1) := by decide +kernel
theorem dX10_count_119 : decode cX10_count 119 = .ok (.aload_n 0, 1) := by decide +kernel
theorem dX10_count_120 : decode cX10_count 120 = .ok (.getfield 32, 3) := by decide +kernel
theorem dX10_count_123 : decode cX10_count 123 = .ok (.getfield 82, 3) := by decide +kernel
theorem dX10_count_126 : decode cX10_count 126 = .ok (.ireturn, 1) := by decide +kernel
theorem dX10_count_127 : decode cX10_count 127 = .ok (.aload_n 0, 1) := by decide +kernel
theorem dX10_count_128 : decode cX10_count 128 = .ok (.getfield 285, 3) := by decide +kernel
theorem dX10_count_131 : decode cX10_count 131 = .ok (.ireturn, 1) := by decide +kernel
theorem dX10_count_132 : decode cX10_count 132 = .ok (.aload_n 0, 1) := by decide +kernel
theorem dX10_count_133 : decode cX10_count 133 = .ok (.getfield 25, 3) := by decide +kernel
theorem dX10_count_136 : decode cX10_count 136 = .ok (.getfield 298, 3) := by decide +kernel
theorem dX10_count_139 : decode cX10_count 139 = .ok (.ireturn, 1) := by decide +kernel
theorem dX10_count_140 : decode cX10_count 140 = .ok (.iload_n 1, 1) := by decide +kernel
theorem dX10_count_141 : decode cX10_count 141 = .ok (.bipush 10, 2) := by decide +kernel
theorem dX10_count_143 : decode cX10_count 143 = .ok (.if_icmp .le 27, 3) := by decide +kernel
theorem dX10_count_146 : decode cX10_count 146 = .ok (.iload_n 1, 1) := by decide +kernel
theorem dX10_count_147 : decode cX10_count 147 = .ok (.bipush 10, 2) := by decide +kernel
theorem dX10_count_149 : decode cX10_count 149 = .ok (.isub, 1) := by decide +kernel
theorem dX10_count_150 : decode cX10_count 150 = .ok (.aload_n 0, 1) := by decide +kernel
theorem dX10_count_151 : decode cX10_count 151 = .ok (.getfield 40, 3) := by decide +kernel
theorem dX10_count_154 : decode cX10_count 154 = .ok (.arraylength, 1) := by decide +kernel
theorem dX10_count_155 : decode cX10_count 155 = .ok (.if_icmp .ge 15, 3) := by decide +kernel
theorem dX10_count_158 : decode cX10_count 158 = .ok (.aload_n 0, 1) := by decide +kernel
theorem dX10_count_159 : decode cX10_count 159 = .ok (.getfield 40, 3) := by decide +kernel
theorem dX10_count_162 : decode cX10_count 162 = .ok (.iload_n 1, 1) := by decide +kernel
theorem dX10_count_163 : decode cX10_count 163 = .ok (.bipush 10, 2) := by decide +kernel
theorem dX10_count_165 : decode cX10_count 165 = .ok (.isub, 1) := by decide +kernel
theorem dX10_count_166 : decode cX10_count 166 = .ok (.iaload, 1) := by decide +kernel
theorem dX10_count_167 : decode cX10_count 167 = .ok (.goto 5, 3) := by decide +kernel
theorem dX10_count_170 : decode cX10_count 170 = .ok (.bipush (-9), 2) := by decide +kernel
theorem dX10_count_172 : decode cX10_count 172 = .ok (.ireturn, 1) := by decide +kernel
theorem dX10_refused_0 : decode cX10_refused 0 = .ok (.iload_n 1, 1) := by decide +kernel
theorem dX10_refused_1 : decode cX10_refused 1 = .ok (.ineg, 1) := by decide +kernel
theorem dX10_refused_2 : decode cX10_refused 2 = .ok (.istore_n 2, 1) := by decide +kernel
theorem dX10_refused_3 : decode cX10_refused 3 = .ok (.iload_n 2, 1) := by decide +kernel
theorem dX10_refused_4 : decode cX10_refused 4 = .ok (.ifCond .lt 22, 3) := by decide +kernel
theorem dX10_refused_7 : decode cX10_refused 7 = .ok (.iload_n 2, 1) := by decide +kernel
theorem dX10_refused_8 : decode cX10_refused 8 = .ok (.aload_n 0, 1) := by decide +kernel
theorem dX10_refused_9 : decode cX10_refused 9 = .ok (.getfield 40, 3) := by decide +kernel
theorem dX10_refused_12 : decode cX10_refused 12 = .ok (.arraylength, 1) := by decide +kernel
theorem dX10_refused_13 : decode cX10_refused 13 = .ok (.if_icmp .ge 13, 3) := by decide +kernel
theorem dX10_refused_16 : decode cX10_refused 16 = .ok (.aload_n 0, 1) := by decide +kernel
theorem dX10_refused_17 : decode cX10_refused 17 = .ok (.getfield 40, 3) := by decide +kernel
theorem dX10_refused_20 : decode cX10_refused 20 = .ok (.iload_n 2, 1) := by decide +kernel
theorem dX10_refused_21 : decode cX10_refused 21 = .ok (.dup2, 1) := by decide +kernel
theorem dX10_refused_22 : decode cX10_refused 22 = .ok (.iaload, 1) := by decide +kernel
theorem dX10_refused_23 : decode cX10_refused 23 = .ok (.iconst 1, 1) := by decide +kernel
theorem dX10_refused_24 : decode cX10_refused 24 = .ok (.iadd, 1) := by decide +kernel
theorem dX10_refused_25 : decode cX10_refused 25 = .ok (.iastore, 1) := by decide +kernel
theorem dX10_refused_26 : decode cX10_refused 26 = .ok (.iload_n 1, 1) := by decide +kernel
theorem dX10_refused_27 : decode cX10_refused 27 = .ok (.ireturn, 1) := by decide +kernel
theorem dX10_withoutPast_0 : decode cX10_withoutPast 0 = .ok (.iload_n 1, 1) := by decide +kernel
theorem dX10_withoutPast_1 : decode cX10_withoutPast 1 = .ok (.ifCond .ge 9, 3) := by decide +kernel
theorem dX10_withoutPast_4 : decode cX10_withoutPast 4 = .ok (.aload_n 0, 1) := by decide +kernel
theorem dX10_withoutPast_5 : decode cX10_withoutPast 5 = .ok (.iload_n 1, 1) := by decide +kernel
theorem dX10_withoutPast_6 : decode cX10_withoutPast 6 = .ok (.invokevirtual 67, 3) := by decide +kernel
theorem dX10_withoutPast_9 : decode cX10_withoutPast 9 = .ok (.ireturn, 1) := by decide +kernel
theorem dX10_withoutPast_10 : decode cX10_withoutPast 10 = .ok (.aload_n 0, 1) := by decide +kernel
theorem dX10_withoutPast_11 : decode cX10_withoutPast 11 = .ok (.getfield 25, 3) := by decide +kernel
theorem dX10_withoutPast_14 : decode cX10_withoutPast 14 = .ok (.invokevirtual 96, 3) := by decide +kernel
theorem dX10_withoutPast_17 : decode cX10_withoutPast 17 = .ok (.iload_n 1, 1) := by decide +kernel
theorem dX10_withoutPast_18 : decode cX10_withoutPast 18 = .ok (.ireturn, 1) := by decide +kernel
theorem dX10_withPast_0 : decode cX10_withPast 0 = .ok (.iload_n 1, 1) := by decide +kernel
theorem dX10_withPast_1 : decode cX10_withPast 1 = .ok (.ifCond .ge 9, 3) := by decide +kernel
theorem dX10_withPast_4 : decode cX10_withPast 4 = .ok (.aload_n 0, 1) := by decide +kernel
theorem dX10_withPast_5 : decode cX10_withPast 5 = .ok (.iload_n 1, 1) := by decide +kernel
theorem dX10_withPast_6 : decode cX10_withPast 6 = .ok (.invokevirtual 67, 3) := by decide +kernel
theorem dX10_withPast_9 : decode cX10_withPast 9 = .ok (.ireturn, 1) := by decide +kernel
theorem dX10_withPast_10 : decode cX10_withPast 10 = .ok (.aload_n 0, 1) := by decide +kernel
theorem dX10_withPast_11 : decode cX10_withPast 11 = .ok (.getfield 25, 3) := by decide +kernel
theorem dX10_withPast_14 : decode cX10_withPast 14 = .ok (.aload_n 0, 1) := by decide +kernel
theorem dX10_withPast_15 : decode cX10_withPast 15 = .ok (.getfield 16, 3) := by decide +kernel
theorem dX10_withPast_18 : decode cX10_withPast 18 = .ok (.invokevirtual 375, 3) := by decide +kernel
theorem dX10_withPast_21 : decode cX10_withPast 21 = .ok (.iload_n 1, 1) := by decide +kernel
theorem dX10_withPast_22 : decode cX10_withPast 22 = .ok (.ireturn, 1) := by decide +kernel
theorem dX10_outside_0 : decode cX10_outside 0 = .ok (.iload_n 0, 1) := by decide +kernel
theorem dX10_outside_1 : decode cX10_outside 1 = .ok (.iload_n 1, 1) := by decide +kernel
theorem dX10_outside_2 : decode cX10_outside 2 = .ok (.if_icmp .ge 6, 3) := by decide +kernel
theorem dX10_outside_5 : decode cX10_outside 5 = .ok (.bipush (-4), 2) := by decide +kernel
theorem dX10_outside_7 : decode cX10_outside 7 = .ok (.ireturn, 1) := by decide +kernel
theorem dX10_outside_8 : decode cX10_outside 8 = .ok (.iload_n 0, 1) := by decide +kernel
theorem dX10_outside_9 : decode cX10_outside 9 = .ok (.iload_n 2, 1) := by decide +kernel
theorem dX10_outside_10 : decode cX10_outside 10 = .ok (.if_icmp .le 8, 3) := by decide +kernel
theorem dX10_outside_13 : decode cX10_outside 13 = .ok (.bipush (-6), 2) := by decide +kernel
theorem dX10_outside_15 : decode cX10_outside 15 = .ok (.goto 4, 3) := by decide +kernel
theorem dX10_outside_18 : decode cX10_outside 18 = .ok (.iconst 0, 1) := by decide +kernel
theorem dX10_outside_19 : decode cX10_outside 19 = .ok (.ireturn, 1) := by decide +kernel
theorem dX10_eitherOutside_0 : decode cX10_eitherOutside 0 = .ok (.iload_n 0, 1) := by decide +kernel
theorem dX10_eitherOutside_1 : decode cX10_eitherOutside 1 = .ok (.ifCond .lt 7, 3) := by decide +kernel
theorem dX10_eitherOutside_4 : decode cX10_eitherOutside 4 = .ok (.iload_n 2, 1) := by decide +kernel
theorem dX10_eitherOutside_5 : decode cX10_eitherOutside 5 = .ok (.ifCond .ge 6, 3) := by decide +kernel
theorem dX10_eitherOutside_8 : decode cX10_eitherOutside 8 = .ok (.bipush (-4), 2) := by decide +kernel
theorem dX10_eitherOutside_10 : decode cX10_eitherOutside 10 = .ok (.ireturn, 1) := by decide +kernel
theorem dX10_eitherOutside_11 : decode cX10_eitherOutside 11 = .ok (.iload_n 0, 1) := by decide +kernel
theorem dX10_eitherOutside_12 : decode cX10_eitherOutside 12 = .ok (.iload_n 1, 1) := by decide +kernel
theorem dX10_eitherOutside_13 : decode cX10_eitherOutside 13 = .ok (.if_icmp .gt 8, 3) := by decide +kernel
theorem dX10_eitherOutside_16 : decode cX10_eitherOutside 16 = .ok (.iload_n 2, 1) := by decide +kernel
theorem dX10_eitherOutside_17 : decode cX10_eitherOutside 17 = .ok (.iload_n 3, 1) := by decide +kernel
theorem dX10_eitherOutside_18 : decode cX10_eitherOutside 18 = .ok (.if_icmp .le 8, 3) := by decide +kernel
theorem dX10_eitherOutside_21 : decode cX10_eitherOutside 21 = .ok (.bipush (-6), 2) := by decide +kernel
theorem dX10_eitherOutside_23 : decode cX10_eitherOutside 23 = .ok (.goto 4, 3) := by decide +kernel
theorem dX10_eitherOutside_26 : decode cX10_eitherOutside 26 = .ok (.iconst 0, 1) := by decide +kernel
theorem dX10_eitherOutside_27 : decode cX10_eitherOutside 27 = .ok (.ireturn, 1) := by decide +kernel
theorem dX10_otherThan_0 : decode cX10_otherThan 0 = .ok (.iload_n 0, 1) := by decide +kernel
theorem dX10_otherThan_1 : decode cX10_otherThan 1 = .ok (.ifCond .lt 8, 3) := by decide +kernel
theorem dX10_otherThan_4 : decode cX10_otherThan 4 = .ok (.iload_n 0, 1) := by decide +kernel
theorem dX10_otherThan_5 : decode cX10_otherThan 5 = .ok (.iload_n 1, 1) := by decide +kernel
theorem dX10_otherThan_6 : decode cX10_otherThan 6 = .ok (.if_icmp .le 8, 3) := by decide +kernel
theorem dX10_otherThan_9 : decode cX10_otherThan 9 = .ok (.bipush (-2), 2) := by decide +kernel
theorem dX10_otherThan_11 : decode cX10_otherThan 11 = .ok (.goto 4, 3) := by decide +kernel
theorem dX10_otherThan_14 : decode cX10_otherThan 14 = .ok (.iconst 0, 1) := by decide +kernel
theorem dX10_otherThan_15 : decode cX10_otherThan 15 = .ok (.ireturn, 1) := by decide +kernel
theorem dX10_notAhead_0 : decode cX10_notAhead 0 = .ok (.iload_n 0, 1) := by decide +kernel
theorem dX10_notAhead_1 : decode cX10_notAhead 1 = .ok (.iconst 0, 1) := by decide +kernel
theorem dX10_notAhead_2 : decode cX10_notAhead 2 = .ok (.bipush 100, 2) := by decide +kernel
theorem dX10_notAhead_4 : decode cX10_notAhead 4 = .ok (.invokestatic 59, 3) := by decide +kernel
theorem dX10_notAhead_7 : decode cX10_notAhead 7 = .ok (.ireturn, 1) := by decide +kernel
theorem dX10_noFamilyAhead_0 : decode cX10_noFamilyAhead 0 = .ok (.aload_n 0, 1) := by decide +kernel
theorem dX10_noFamilyAhead_1 : decode cX10_noFamilyAhead 1 = .ok (.getfield 10, 3) := by decide +kernel
theorem dX10_noFamilyAhead_4 : decode cX10_noFamilyAhead 4 = .ok (.iload_n 1, 1) := by decide +kernel
theorem dX10_noFamilyAhead_5 : decode cX10_noFamilyAhead 5 = .ok (.invokevirtual 99, 3) := by decide +kernel
theorem dX10_noFamilyAhead_8 : decode cX10_noFamilyAhead 8 = .ok (.istore_n 3, 1) := by decide +kernel
theorem dX10_noFamilyAhead_9 : decode cX10_noFamilyAhead 9 = .ok (.iload_n 3, 1) := by decide +kernel
theorem dX10_noFamilyAhead_10 : decode cX10_noFamilyAhead 10 = .ok (.ifCond .eq 7, 3) := by decide +kernel
theorem dX10_noFamilyAhead_13 : decode cX10_noFamilyAhead 13 = .ok (.iload_n 3, 1) := by decide +kernel
theorem dX10_noFamilyAhead_14 : decode cX10_noFamilyAhead 14 = .ok (.goto 7, 3) := by decide +kernel
theorem dX10_noFamilyAhead_17 : decode cX10_noFamilyAhead 17 = .ok (.iload_n 2, 1) := by decide +kernel
theorem dX10_noFamilyAhead_18 : decode cX10_noFamilyAhead 18 = .ok (.invokestatic 178, 3) := by decide +kernel
theorem dX10_noFamilyAhead_21 : decode cX10_noFamilyAhead 21 = .ok (.ireturn, 1) := by decide +kernel
theorem dX10_noTwoAhead_0 : decode cX10_noTwoAhead 0 = .ok (.aload_n 0, 1) := by decide +kernel
theorem dX10_noTwoAhead_1 : decode cX10_noTwoAhead 1 = .ok (.getfield 10, 3) := by decide +kernel
theorem dX10_noTwoAhead_4 : decode cX10_noTwoAhead 4 = .ok (.iload_n 1, 1) := by decide +kernel
theorem dX10_noTwoAhead_5 : decode cX10_noTwoAhead 5 = .ok (.iload_n 2, 1) := by decide +kernel
theorem dX10_noTwoAhead_6 : decode cX10_noTwoAhead 6 = .ok (.invokevirtual 338, 3) := by decide +kernel
theorem dX10_noTwoAhead_9 : decode cX10_noTwoAhead 9 = .ok (.istore 4, 2) := by decide +kernel
theorem dX10_noTwoAhead_11 : decode cX10_noTwoAhead 11 = .ok (.iload 4, 2) := by decide +kernel
theorem dX10_noTwoAhead_13 : decode cX10_noTwoAhead 13 = .ok (.ifCond .eq 8, 3) := by decide +kernel
theorem dX10_noTwoAhead_16 : decode cX10_noTwoAhead 16 = .ok (.iload 4, 2) := by decide +kernel
theorem dX10_noTwoAhead_18 : decode cX10_noTwoAhead 18 = .ok (.goto 7, 3) := by decide +kernel
theorem dX10_noTwoAhead_21 : decode cX10_noTwoAhead 21 = .ok (.iload_n 3, 1) := by decide +kernel
theorem dX10_noTwoAhead_22 : decode cX10_noTwoAhead 22 = .ok (.invokestatic 178, 3) := by decide +kernel
theorem dX10_noTwoAhead_25 : decode cX10_noTwoAhead 25 = .ok (.ireturn, 1) := by decide +kernel
theorem dX10_ahead_0 : decode cX10_ahead 0 = .ok (.aload_n 0, 1) := by decide +kernel
theorem dX10_ahead_1 : decode cX10_ahead 1 = .ok (.getfield 46, 3) := by decide +kernel
theorem dX10_ahead_4 : decode cX10_ahead 4 = .ok (.aload_n 0, 1) := by decide +kernel
theorem dX10_ahead_5 : decode cX10_ahead 5 = .ok (.getfield 10, 3) := by decide +kernel
theorem dX10_ahead_8 : decode cX10_ahead 8 = .ok (.iload_n 1, 1) := by decide +kernel
theorem dX10_ahead_9 : decode cX10_ahead 9 = .ok (.invokevirtual 106, 3) := by decide +kernel
theorem dX10_ahead_12 : decode cX10_ahead 12 = .ok (.invokevirtual 233, 3) := by decide +kernel
theorem dX10_ahead_15 : decode cX10_ahead 15 = .ok (.aload_n 0, 1) := by decide +kernel
theorem dX10_ahead_16 : decode cX10_ahead 16 = .ok (.getfield 46, 3) := by decide +kernel
theorem dX10_ahead_19 : decode cX10_ahead 19 = .ok (.aload_n 0, 1) := by decide +kernel
theorem dX10_ahead_20 : decode cX10_ahead 20 = .ok (.getfield 10, 3) := by decide +kernel
theorem dX10_ahead_23 : decode cX10_ahead 23 = .ok (.getfield 239, 3) := by decide +kernel
theorem dX10_ahead_26 : decode cX10_ahead 26 = .ok (.aload_n 0, 1) := by decide +kernel
theorem dX10_ahead_27 : decode cX10_ahead 27 = .ok (.getfield 10, 3) := by decide +kernel
theorem dX10_ahead_30 : decode cX10_ahead 30 = .ok (.getfield 242, 3) := by decide +kernel
theorem dX10_ahead_33 : decode cX10_ahead 33 = .ok (.iload_n 2, 1) := by decide +kernel
theorem dX10_ahead_34 : decode cX10_ahead 34 = .ok (.invokevirtual 245, 3) := by decide +kernel
theorem dX10_ahead_37 : decode cX10_ahead 37 = .ok (.return_, 1) := by decide +kernel
theorem dX10_headOwesBehind_0 : decode cX10_headOwesBehind 0 = .ok (.aload_n 0, 1) := by decide +kernel
theorem dX10_headOwesBehind_1 : decode cX10_headOwesBehind 1 = .ok (.iload_n 1, 1) := by decide +kernel
theorem dX10_headOwesBehind_2 : decode cX10_headOwesBehind 2 = .ok (.iload_n 2, 1) := by decide +kernel
theorem dX10_headOwesBehind_3 : decode cX10_headOwesBehind 3 = .ok (.invokevirtual 174, 3) := by decide +kernel
theorem dX10_headOwesBehind_6 : decode cX10_headOwesBehind 6 = .ok (.aload_n 0, 1) := by decide +kernel
theorem dX10_headOwesBehind_7 : decode cX10_headOwesBehind 7 = .ok (.getfield 46, 3) := by decide +kernel
theorem dX10_headOwesBehind_10 : decode cX10_headOwesBehind 10 = .ok (.invokevirtual 122, 3) := by decide +kernel
theorem dX10_headOwesBehind_13 : decode cX10_headOwesBehind 13 = .ok (.ireturn, 1) := by decide +kernel
theorem dX10_freeBehind_0 : decode cX10_freeBehind 0 = .ok (.aload_n 0, 1) := by decide +kernel
theorem dX10_freeBehind_1 : decode cX10_freeBehind 1 = .ok (.getfield 46, 3) := by decide +kernel
theorem dX10_freeBehind_4 : decode cX10_freeBehind 4 = .ok (.aload_n 0, 1) := by decide +kernel
theorem dX10_freeBehind_5 : decode cX10_freeBehind 5 = .ok (.getfield 10, 3) := by decide +kernel
theorem dX10_freeBehind_8 : decode cX10_freeBehind 8 = .ok (.iload_n 1, 1) := by decide +kernel
theorem dX10_freeBehind_9 : decode cX10_freeBehind 9 = .ok (.invokevirtual 106, 3) := by decide +kernel
theorem dX10_freeBehind_12 : decode cX10_freeBehind 12 = .ok (.invokevirtual 233, 3) := by decide +kernel
theorem dX10_freeBehind_15 : decode cX10_freeBehind 15 = .ok (.iconst 0, 1) := by decide +kernel
theorem dX10_freeBehind_16 : decode cX10_freeBehind 16 = .ok (.istore_n 3, 1) := by decide +kernel
theorem dX10_freeBehind_17 : decode cX10_freeBehind 17 = .ok (.iload_n 3, 1) := by decide +kernel
theorem dX10_freeBehind_18 : decode cX10_freeBehind 18 = .ok (.bipush 100, 2) := by decide +kernel
theorem dX10_freeBehind_20 : decode cX10_freeBehind 20 = .ok (.if_icmp .gt 54, 3) := by decide +kernel
theorem dX10_freeBehind_23 : decode cX10_freeBehind 23 = .ok (.aload_n 0, 1) := by decide +kernel
theorem dX10_freeBehind_24 : decode cX10_freeBehind 24 = .ok (.getfield 46, 3) := by decide +kernel
theorem dX10_freeBehind_27 : decode cX10_freeBehind 27 = .ok (.getfield 113, 3) := by decide +kernel
theorem dX10_freeBehind_30 : decode cX10_freeBehind 30 = .ok (.ifCond .ne 5, 3) := by decide +kernel
theorem dX10_freeBehind_33 : decode cX10_freeBehind 33 = .ok (.iload_n 3, 1) := by decide +kernel
theorem dX10_freeBehind_34 : decode cX10_freeBehind 34 = .ok (.ireturn, 1) := by decide +kernel
theorem dX10_freeBehind_35 : decode cX10_freeBehind 35 = .ok (.aload_n 0, 1) := by decide +kernel
theorem dX10_freeBehind_36 : decode cX10_freeBehind 36 = .ok (.getfield 46, 3) := by decide +kernel
theorem dX10_freeBehind_39 : decode cX10_freeBehind 39 = .ok (.aload_n 0, 1) := by decide +kernel
theorem dX10_freeBehind_40 : decode cX10_freeBehind 40 = .ok (.getfield 10, 3) := by decide +kernel
theorem dX10_freeBehind_43 : decode cX10_freeBehind 43 = .ok (.getfield 239, 3) := by decide +kernel
theorem dX10_freeBehind_46 : decode cX10_freeBehind 46 = .ok (.aload_n 0, 1) := by decide +kernel
theorem dX10_freeBehind_47 : decode cX10_freeBehind 47 = .ok (.getfield 10, 3) := by decide +kernel
theorem dX10_freeBehind_50 : decode cX10_freeBehind 50 = .ok (.getfield 242, 3) := by decide +kernel
theorem dX10_freeBehind_53 : decode cX10_freeBehind 53 = .ok (.iload_n 3, 1) := by decide +kernel
theorem dX10_freeBehind_54 : decode cX10_freeBehind 54 = .ok (.iadd, 1) := by decide +kernel
theorem dX10_freeBehind_55 : decode cX10_freeBehind 55 = .ok (.iconst 1, 1) := by decide +kernel
theorem dX10_freeBehind_56 : decode cX10_freeBehind 56 = .ok (.iadd, 1) := by decide +kernel
theorem dX10_freeBehind_57 : decode cX10_freeBehind 57 = .ok (.invokevirtual 331, 3) := by decide +kernel
theorem dX10_freeBehind_60 : decode cX10_freeBehind 60 = .ok (.aload_n 0, 1) := by decide +kernel
theorem dX10_freeBehind_61 : decode cX10_freeBehind 61 = .ok (.getfield 46, 3) := by decide +kernel
theorem dX10_freeBehind_64 : decode cX10_freeBehind 64 = .ok (.iload_n 2, 1) := by decide +kernel
theorem dX10_freeBehind_65 : decode cX10_freeBehind 65 = .ok (.invokevirtual 236, 3) := by decide +kernel
theorem dX10_freeBehind_68 : decode cX10_freeBehind 68 = .ok (.iinc 3 1, 3) := by decide +kernel
theorem dX10_freeBehind_71 : decode cX10_freeBehind 71 = .ok (.goto (-54), 3) := by decide +kernel
theorem dX10_freeBehind_74 : decode cX10_freeBehind 74 = .ok (.bipush (-9), 2) := by decide +kernel
theorem dX10_freeBehind_76 : decode cX10_freeBehind 76 = .ok (.ireturn, 1) := by decide +kernel
theorem dX10_highestRate_0 : decode cX10_highestRate 0 = .ok (.bipush 20, 2) := by decide +kernel
theorem dX10_highestRate_2 : decode cX10_highestRate 2 = .ok (.istore_n 3, 1) := by decide +kernel
theorem dX10_highestRate_3 : decode cX10_highestRate 3 = .ok (.iload_n 3, 1) := by decide +kernel
theorem dX10_highestRate_4 : decode cX10_highestRate 4 = .ok (.ifCond .lt 52, 3) := by decide +kernel
theorem dX10_highestRate_7 : decode cX10_highestRate 7 = .ok (.aload_n 0, 1) := by decide +kernel
theorem dX10_highestRate_8 : decode cX10_highestRate 8 = .ok (.getfield 46, 3) := by decide +kernel
theorem dX10_highestRate_11 : decode cX10_highestRate 11 = .ok (.aload_n 0, 1) := by decide +kernel
theorem dX10_highestRate_12 : decode cX10_highestRate 12 = .ok (.getfield 10, 3) := by decide +kernel
theorem dX10_highestRate_15 : decode cX10_highestRate 15 = .ok (.iload_n 1, 1) := by decide +kernel
theorem dX10_highestRate_16 : decode cX10_highestRate 16 = .ok (.invokevirtual 106, 3) := by decide +kernel
theorem dX10_highestRate_19 : decode cX10_highestRate 19 = .ok (.invokevirtual 233, 3) := by decide +kernel
theorem dX10_highestRate_22 : decode cX10_highestRate 22 = .ok (.aload_n 0, 1) := by decide +kernel
theorem dX10_highestRate_23 : decode cX10_highestRate 23 = .ok (.getfield 46, 3) := by decide +kernel
theorem dX10_highestRate_26 : decode cX10_highestRate 26 = .ok (.iload_n 3, 1) := by decide +kernel
theorem dX10_highestRate_27 : decode cX10_highestRate 27 = .ok (.aload_n 0, 1) := by decide +kernel
theorem dX10_highestRate_28 : decode cX10_highestRate 28 = .ok (.getfield 10, 3) := by decide +kernel
theorem dX10_highestRate_31 : decode cX10_highestRate 31 = .ok (.getfield 242, 3) := by decide +kernel
theorem dX10_highestRate_34 : decode cX10_highestRate 34 = .ok (.iload_n 2, 1) := by decide +kernel
theorem dX10_highestRate_35 : decode cX10_highestRate 35 = .ok (.invokevirtual 245, 3) := by decide +kernel
theorem dX10_highestRate_38 : decode cX10_highestRate 38 = .ok (.aload_n 0, 1) := by decide +kernel
theorem dX10_highestRate_39 : decode cX10_highestRate 39 = .ok (.getfield 46, 3) := by decide +kernel
theorem dX10_highestRate_42 : decode cX10_highestRate 42 = .ok (.getfield 113, 3) := by decide +kernel
theorem dX10_highestRate_45 : decode cX10_highestRate 45 = .ok (.ifCond .ne 5, 3) := by decide +kernel
theorem dX10_highestRate_48 : decode cX10_highestRate 48 = .ok (.iload_n 3, 1) := by decide +kernel
theorem dX10_highestRate_49 : decode cX10_highestRate 49 = .ok (.ireturn, 1) := by decide +kernel
theorem dX10_highestRate_50 : decode cX10_highestRate 50 = .ok (.iinc 3 (-1), 3) := by decide +kernel
theorem dX10_highestRate_53 : decode cX10_highestRate 53 = .ok (.goto (-50), 3) := by decide +kernel
theorem dX10_highestRate_56 : decode cX10_highestRate 56 = .ok (.bipush (-9), 2) := by decide +kernel
theorem dX10_highestRate_58 : decode cX10_highestRate 58 = .ok (.ireturn, 1) := by decide +kernel
theorem dX10_leastPay_0 : decode cX10_leastPay 0 = .ok (.iconst 0, 1) := by decide +kernel
theorem dX10_leastPay_1 : decode cX10_leastPay 1 = .ok (.istore_n 3, 1) := by decide +kernel
theorem dX10_leastPay_2 : decode cX10_leastPay 2 = .ok (.iload_n 3, 1) := by decide +kernel
theorem dX10_leastPay_3 : decode cX10_leastPay 3 = .ok (.bipush 9, 2) := by decide +kernel
theorem dX10_leastPay_5 : decode cX10_leastPay 5 = .ok (.if_icmp .gt 66, 3) := by decide +kernel
theorem dX10_leastPay_8 : decode cX10_leastPay 8 = .ok (.aload_n 0, 1) := by decide +kernel
theorem dX10_leastPay_9 : decode cX10_leastPay 9 = .ok (.getfield 46, 3) := by decide +kernel
theorem dX10_leastPay_12 : decode cX10_leastPay 12 = .ok (.aload_n 0, 1) := by decide +kernel
theorem dX10_leastPay_13 : decode cX10_leastPay 13 = .ok (.getfield 10, 3) := by decide +kernel
theorem dX10_leastPay_16 : decode cX10_leastPay 16 = .ok (.iload_n 1, 1) := by decide +kernel
theorem dX10_leastPay_17 : decode cX10_leastPay 17 = .ok (.invokevirtual 106, 3) := by decide +kernel
theorem dX10_leastPay_20 : decode cX10_leastPay 20 = .ok (.invokevirtual 233, 3) := by decide +kernel
theorem dX10_leastPay_23 : decode cX10_leastPay 23 = .ok (.aload_n 0, 1) := by decide +kernel
theorem dX10_leastPay_24 : decode cX10_leastPay 24 = .ok (.getfield 46, 3) := by decide +kernel
theorem dX10_leastPay_27 : decode cX10_leastPay 27 = .ok (.iload_n 3, 1) := by decide +kernel
theorem dX10_leastPay_28 : decode cX10_leastPay 28 = .ok (.putfield 116, 3) := by decide +kernel
theorem dX10_leastPay_31 : decode cX10_leastPay 31 = .ok (.aload_n 0, 1) := by decide +kernel
theorem dX10_leastPay_32 : decode cX10_leastPay 32 = .ok (.getfield 46, 3) := by decide +kernel
theorem dX10_leastPay_35 : decode cX10_leastPay 35 = .ok (.aload_n 0, 1) := by decide +kernel
theorem dX10_leastPay_36 : decode cX10_leastPay 36 = .ok (.getfield 10, 3) := by decide +kernel
theorem dX10_leastPay_39 : decode cX10_leastPay 39 = .ok (.getfield 239, 3) := by decide +kernel
theorem dX10_leastPay_42 : decode cX10_leastPay 42 = .ok (.aload_n 0, 1) := by decide +kernel
theorem dX10_leastPay_43 : decode cX10_leastPay 43 = .ok (.getfield 10, 3) := by decide +kernel
theorem dX10_leastPay_46 : decode cX10_leastPay 46 = .ok (.getfield 242, 3) := by decide +kernel
theorem dX10_leastPay_49 : decode cX10_leastPay 49 = .ok (.iload_n 2, 1) := by decide +kernel
theorem dX10_leastPay_50 : decode cX10_leastPay 50 = .ok (.invokevirtual 245, 3) := by decide +kernel
theorem dX10_leastPay_53 : decode cX10_leastPay 53 = .ok (.aload_n 0, 1) := by decide +kernel
theorem dX10_leastPay_54 : decode cX10_leastPay 54 = .ok (.getfield 46, 3) := by decide +kernel
theorem dX10_leastPay_57 : decode cX10_leastPay 57 = .ok (.getfield 113, 3) := by decide +kernel
theorem dX10_leastPay_60 : decode cX10_leastPay 60 = .ok (.ifCond .ne 5, 3) := by decide +kernel
theorem dX10_leastPay_63 : decode cX10_leastPay 63 = .ok (.iload_n 3, 1) := by decide +kernel
theorem dX10_leastPay_64 : decode cX10_leastPay 64 = .ok (.ireturn, 1) := by decide +kernel
theorem dX10_leastPay_65 : decode cX10_leastPay 65 = .ok (.iinc 3 1, 3) := by decide +kernel
theorem dX10_leastPay_68 : decode cX10_leastPay 68 = .ok (.goto (-66), 3) := by decide +kernel
theorem dX10_leastPay_71 : decode cX10_leastPay 71 = .ok (.bipush (-9), 2) := by decide +kernel
theorem dX10_leastPay_73 : decode cX10_leastPay 73 = .ok (.ireturn, 1) := by decide +kernel
theorem dX10_mergedHeadOwes_0 : decode cX10_mergedHeadOwes 0 = .ok (.aload_n 0, 1) := by decide +kernel
theorem dX10_mergedHeadOwes_1 : decode cX10_mergedHeadOwes 1 = .ok (.getfield 10, 3) := by decide +kernel
theorem dX10_mergedHeadOwes_4 : decode cX10_mergedHeadOwes 4 = .ok (.iload_n 2, 1) := by decide +kernel
theorem dX10_mergedHeadOwes_5 : decode cX10_mergedHeadOwes 5 = .ok (.invokevirtual 106, 3) := by decide +kernel
theorem dX10_mergedHeadOwes_8 : decode cX10_mergedHeadOwes 8 = .ok (.astore 4, 2) := by decide +kernel
theorem dX10_mergedHeadOwes_10 : decode cX10_mergedHeadOwes 10 = .ok (.aload_n 0, 1) := by decide +kernel
theorem dX10_mergedHeadOwes_11 : decode cX10_mergedHeadOwes 11 = .ok (.getfield 46, 3) := by decide +kernel
theorem dX10_mergedHeadOwes_14 : decode cX10_mergedHeadOwes 14 = .ok (.aload_n 0, 1) := by decide +kernel
theorem dX10_mergedHeadOwes_15 : decode cX10_mergedHeadOwes 15 = .ok (.getfield 10, 3) := by decide +kernel
theorem dX10_mergedHeadOwes_18 : decode cX10_mergedHeadOwes 18 = .ok (.iload_n 1, 1) := by decide +kernel
theorem dX10_mergedHeadOwes_19 : decode cX10_mergedHeadOwes 19 = .ok (.invokevirtual 106, 3) := by decide +kernel
theorem dX10_mergedHeadOwes_22 : decode cX10_mergedHeadOwes 22 = .ok (.invokevirtual 233, 3) := by decide +kernel
theorem dX10_mergedHeadOwes_25 : decode cX10_mergedHeadOwes 25 = .ok (.aload_n 0, 1) := by decide +kernel
theorem dX10_mergedHeadOwes_26 : decode cX10_mergedHeadOwes 26 = .ok (.getfield 46, 3) := by decide +kernel
theorem dX10_mergedHeadOwes_29 : decode cX10_mergedHeadOwes 29 = .ok (.bipush 20, 2) := by decide +kernel
theorem dX10_mergedHeadOwes_31 : decode cX10_mergedHeadOwes 31 = .ok (.aload_n 0, 1) := by decide +kernel
theorem dX10_mergedHeadOwes_32 : decode cX10_mergedHeadOwes 32 = .ok (.getfield 46, 3) := by decide +kernel
theorem dX10_mergedHeadOwes_35 : decode cX10_mergedHeadOwes 35 = .ok (.getfield 110, 3) := by decide +kernel
theorem dX10_mergedHeadOwes_38 : decode cX10_mergedHeadOwes 38 = .ok (.aload 4, 2) := by decide +kernel
theorem dX10_mergedHeadOwes_40 : decode cX10_mergedHeadOwes 40 = .ok (.getfield 110, 3) := by decide +kernel
theorem dX10_mergedHeadOwes_43 : decode cX10_mergedHeadOwes 43 = .ok (.iadd, 1) := by decide +kernel
theorem dX10_mergedHeadOwes_44 : decode cX10_mergedHeadOwes 44 = .ok (.invokestatic 317, 3) := by decide +kernel
theorem dX10_mergedHeadOwes_47 : decode cX10_mergedHeadOwes 47 = .ok (.putfield 110, 3) := by decide +kernel
theorem dX10_mergedHeadOwes_50 : decode cX10_mergedHeadOwes 50 = .ok (.aload_n 0, 1) := by decide +kernel
theorem dX10_mergedHeadOwes_51 : decode cX10_mergedHeadOwes 51 = .ok (.getfield 46, 3) := by decide +kernel
theorem dX10_mergedHeadOwes_54 : decode cX10_mergedHeadOwes 54 = .ok (.aload 4, 2) := by decide +kernel
theorem dX10_mergedHeadOwes_56 : decode cX10_mergedHeadOwes 56 = .ok (.getfield 113, 3) := by decide +kernel
theorem dX10_mergedHeadOwes_59 : decode cX10_mergedHeadOwes 59 = .ok (.invokevirtual 378, 3) := by decide +kernel
theorem dX10_mergedHeadOwes_62 : decode cX10_mergedHeadOwes 62 = .ok (.aload_n 0, 1) := by decide +kernel
theorem dX10_mergedHeadOwes_63 : decode cX10_mergedHeadOwes 63 = .ok (.getfield 46, 3) := by decide +kernel
theorem dX10_mergedHeadOwes_66 : decode cX10_mergedHeadOwes 66 = .ok (.aload_n 0, 1) := by decide +kernel
theorem dX10_mergedHeadOwes_67 : decode cX10_mergedHeadOwes 67 = .ok (.getfield 10, 3) := by decide +kernel
theorem dX10_mergedHeadOwes_70 : decode cX10_mergedHeadOwes 70 = .ok (.getfield 239, 3) := by decide +kernel
theorem dX10_mergedHeadOwes_73 : decode cX10_mergedHeadOwes 73 = .ok (.aload_n 0, 1) := by decide +kernel
theorem dX10_mergedHeadOwes_74 : decode cX10_mergedHeadOwes 74 = .ok (.getfield 10, 3) := by decide +kernel
theorem dX10_mergedHeadOwes_77 : decode cX10_mergedHeadOwes 77 = .ok (.getfield 242, 3) := by decide +kernel
theorem dX10_mergedHeadOwes_80 : decode cX10_mergedHeadOwes 80 = .ok (.iload_n 3, 1) := by decide +kernel
theorem dX10_mergedHeadOwes_81 : decode cX10_mergedHeadOwes 81 = .ok (.invokevirtual 245, 3) := by decide +kernel
theorem dX10_mergedHeadOwes_84 : decode cX10_mergedHeadOwes 84 = .ok (.aload_n 0, 1) := by decide +kernel
theorem dX10_mergedHeadOwes_85 : decode cX10_mergedHeadOwes 85 = .ok (.getfield 46, 3) := by decide +kernel
theorem dX10_mergedHeadOwes_88 : decode cX10_mergedHeadOwes 88 = .ok (.invokevirtual 122, 3) := by decide +kernel
theorem dX10_mergedHeadOwes_91 : decode cX10_mergedHeadOwes 91 = .ok (.ireturn, 1) := by decide +kernel
theorem dX10_signedPay_0 : decode cX10_signedPay 0 = .ok (.aload_n 0, 1) := by decide +kernel
theorem dX10_signedPay_1 : decode cX10_signedPay 1 = .ok (.getfield 10, 3) := by decide +kernel
theorem dX10_signedPay_4 : decode cX10_signedPay 4 = .ok (.iload_n 1, 1) := by decide +kernel
theorem dX10_signedPay_5 : decode cX10_signedPay 5 = .ok (.invokevirtual 106, 3) := by decide +kernel
theorem dX10_signedPay_8 : decode cX10_signedPay 8 = .ok (.getfield 116, 3) := by decide +kernel
theorem dX10_signedPay_11 : decode cX10_signedPay 11 = .ok (.istore_n 3, 1) := by decide +kernel
theorem dX10_signedPay_12 : decode cX10_signedPay 12 = .ok (.aload_n 0, 1) := by decide +kernel
theorem dX10_signedPay_13 : decode cX10_signedPay 13 = .ok (.iload_n 3, 1) := by decide +kernel
theorem dX10_signedPay_14 : decode cX10_signedPay 14 = .ok (.iload_n 1, 1) := by decide +kernel
theorem dX10_signedPay_15 : decode cX10_signedPay 15 = .ok (.iload_n 2, 1) := by decide +kernel
theorem dX10_signedPay_16 : decode cX10_signedPay 16 = .ok (.invokevirtual 381, 3) := by decide +kernel
theorem dX10_signedPay_19 : decode cX10_signedPay 19 = .ok (.istore 4, 2) := by decide +kernel
theorem dX10_signedPay_21 : decode cX10_signedPay 21 = .ok (.aload_n 0, 1) := by decide +kernel
theorem dX10_signedPay_22 : decode cX10_signedPay 22 = .ok (.bipush 9, 2) := by decide +kernel
theorem dX10_signedPay_24 : decode cX10_signedPay 24 = .ok (.iload_n 3, 1) := by decide +kernel
theorem dX10_signedPay_25 : decode cX10_signedPay 25 = .ok (.iconst 1, 1) := by decide +kernel
theorem dX10_signedPay_26 : decode cX10_signedPay 26 = .ok (.iadd, 1) := by decide +kernel
theorem dX10_signedPay_27 : decode cX10_signedPay 27 = .ok (.invokestatic 317, 3) := by decide +kernel
theorem dX10_signedPay_30 : decode cX10_signedPay 30 = .ok (.iload_n 1, 1) := by decide +kernel
theorem dX10_signedPay_31 : decode cX10_signedPay 31 = .ok (.iload_n 2, 1) := by decide +kernel
theorem dX10_signedPay_32 : decode cX10_signedPay 32 = .ok (.invokevirtual 381, 3) := by decide +kernel
theorem dX10_signedPay_35 : decode cX10_signedPay 35 = .ok (.iload 4, 2) := by decide +kernel
theorem dX10_signedPay_37 : decode cX10_signedPay 37 = .ok (.if_icmp .ge 7, 3) := by decide +kernel
theorem dX10_signedPay_40 : decode cX10_signedPay 40 = .ok (.iconst 1, 1) := by decide +kernel
theorem dX10_signedPay_41 : decode cX10_signedPay 41 = .ok (.goto 4, 3) := by decide +kernel
theorem dX10_signedPay_44 : decode cX10_signedPay 44 = .ok (.iconst 0, 1) := by decide +kernel
theorem dX10_signedPay_45 : decode cX10_signedPay 45 = .ok (.ireturn, 1) := by decide +kernel
theorem dX10_costOfPaying_0 : decode cX10_costOfPaying 0 = .ok (.aload_n 0, 1) := by decide +kernel
theorem dX10_costOfPaying_1 : decode cX10_costOfPaying 1 = .ok (.getfield 46, 3) := by decide +kernel
theorem dX10_costOfPaying_4 : decode cX10_costOfPaying 4 = .ok (.aload_n 0, 1) := by decide +kernel
theorem dX10_costOfPaying_5 : decode cX10_costOfPaying 5 = .ok (.getfield 10, 3) := by decide +kernel
theorem dX10_costOfPaying_8 : decode cX10_costOfPaying 8 = .ok (.iload_n 2, 1) := by decide +kernel
theorem dX10_costOfPaying_9 : decode cX10_costOfPaying 9 = .ok (.invokevirtual 106, 3) := by decide +kernel
theorem dX10_costOfPaying_12 : decode cX10_costOfPaying 12 = .ok (.invokevirtual 233, 3) := by decide +kernel
theorem dX10_costOfPaying_15 : decode cX10_costOfPaying 15 = .ok (.aload_n 0, 1) := by decide +kernel
theorem dX10_costOfPaying_16 : decode cX10_costOfPaying 16 = .ok (.getfield 46, 3) := by decide +kernel
theorem dX10_costOfPaying_19 : decode cX10_costOfPaying 19 = .ok (.iload_n 1, 1) := by decide +kernel
theorem dX10_costOfPaying_20 : decode cX10_costOfPaying 20 = .ok (.putfield 116, 3) := by decide +kernel
theorem dX10_costOfPaying_23 : decode cX10_costOfPaying 23 = .ok (.aload_n 0, 1) := by decide +kernel
theorem dX10_costOfPaying_24 : decode cX10_costOfPaying 24 = .ok (.getfield 46, 3) := by decide +kernel
theorem dX10_costOfPaying_27 : decode cX10_costOfPaying 27 = .ok (.aload_n 0, 1) := by decide +kernel
theorem dX10_costOfPaying_28 : decode cX10_costOfPaying 28 = .ok (.getfield 10, 3) := by decide +kernel
theorem dX10_costOfPaying_31 : decode cX10_costOfPaying 31 = .ok (.getfield 239, 3) := by decide +kernel
theorem dX10_costOfPaying_34 : decode cX10_costOfPaying 34 = .ok (.aload_n 0, 1) := by decide +kernel
theorem dX10_costOfPaying_35 : decode cX10_costOfPaying 35 = .ok (.getfield 10, 3) := by decide +kernel
theorem dX10_costOfPaying_38 : decode cX10_costOfPaying 38 = .ok (.getfield 242, 3) := by decide +kernel
theorem dX10_costOfPaying_41 : decode cX10_costOfPaying 41 = .ok (.iload_n 3, 1) := by decide +kernel
theorem dX10_costOfPaying_42 : decode cX10_costOfPaying 42 = .ok (.invokevirtual 245, 3) := by decide +kernel
theorem dX10_costOfPaying_45 : decode cX10_costOfPaying 45 = .ok (.aload_n 0, 1) := by decide +kernel
theorem dX10_costOfPaying_46 : decode cX10_costOfPaying 46 = .ok (.getfield 46, 3) := by decide +kernel
theorem dX10_costOfPaying_49 : decode cX10_costOfPaying 49 = .ok (.getfield 384, 3) := by decide +kernel
theorem dX10_costOfPaying_52 : decode cX10_costOfPaying 52 = .ok (.aload_n 0, 1) := by decide +kernel
theorem dX10_costOfPaying_53 : decode cX10_costOfPaying 53 = .ok (.getfield 46, 3) := by decide +kernel
theorem dX10_costOfPaying_56 : decode cX10_costOfPaying 56 = .ok (.getfield 113, 3) := by decide +kernel
theorem dX10_costOfPaying_59 : decode cX10_costOfPaying 59 = .ok (.iadd, 1) := by decide +kernel
theorem dX10_costOfPaying_60 : decode cX10_costOfPaying 60 = .ok (.ireturn, 1) := by decide +kernel
theorem dX10_waysOf_0 : decode cX10_waysOf 0 = .ok (.lconst 1, 1) := by decide +kernel
theorem dX10_waysOf_1 : decode cX10_waysOf 1 = .ok (.lstore_n 3, 1) := by decide +kernel
theorem dX10_waysOf_2 : decode cX10_waysOf 2 = .ok (.iconst 0, 1) := by decide +kernel
theorem dX10_waysOf_3 : decode cX10_waysOf 3 = .ok (.istore 5, 2) := by decide +kernel
theorem dX10_waysOf_5 : decode cX10_waysOf 5 = .ok (.iload 5, 2) := by decide +kernel
theorem dX10_waysOf_7 : decode cX10_waysOf 7 = .ok (.iload_n 1, 1) := by decide +kernel
theorem dX10_waysOf_8 : decode cX10_waysOf 8 = .ok (.if_icmp .ge 25, 3) := by decide +kernel
theorem dX10_waysOf_11 : decode cX10_waysOf 11 = .ok (.iload_n 0, 1) := by decide +kernel
theorem dX10_waysOf_12 : decode cX10_waysOf 12 = .ok (.iload 5, 2) := by decide +kernel
theorem dX10_waysOf_14 : decode cX10_waysOf 14 = .ok (.ishr, 1) := by decide +kernel
theorem dX10_waysOf_15 : decode cX10_waysOf 15 = .ok (.iconst 1, 1) := by decide +kernel
theorem dX10_waysOf_16 : decode cX10_waysOf 16 = .ok (.iand, 1) := by decide +kernel
theorem dX10_waysOf_17 : decode cX10_waysOf 17 = .ok (.ifCond .ne 10, 3) := by decide +kernel
theorem dX10_waysOf_20 : decode cX10_waysOf 20 = .ok (.lload_n 3, 1) := by decide +kernel
theorem dX10_waysOf_21 : decode cX10_waysOf 21 = .ok (.iload_n 2, 1) := by decide +kernel
theorem dX10_waysOf_22 : decode cX10_waysOf 22 = .ok (.iconst 1, 1) := by decide +kernel
theorem dX10_waysOf_23 : decode cX10_waysOf 23 = .ok (.isub, 1) := by decide +kernel
theorem dX10_waysOf_24 : decode cX10_waysOf 24 = .ok (.i2l, 1) := by decide +kernel
theorem dX10_waysOf_25 : decode cX10_waysOf 25 = .ok (.lmul, 1) := by decide +kernel
theorem dX10_waysOf_26 : decode cX10_waysOf 26 = .ok (.lstore_n 3, 1) := by decide +kernel
theorem dX10_waysOf_27 : decode cX10_waysOf 27 = .ok (.iinc 5 1, 3) := by decide +kernel
theorem dX10_waysOf_30 : decode cX10_waysOf 30 = .ok (.goto (-25), 3) := by decide +kernel
theorem dX10_waysOf_33 : decode cX10_waysOf 33 = .ok (.lload_n 3, 1) := by decide +kernel
theorem dX10_waysOf_34 : decode cX10_waysOf 34 = .ok (.lreturn, 1) := by decide +kernel
theorem dX10_bearByChance_0 : decode cX10_bearByChance 0 = .ok (.aload_n 0, 1) := by decide +kernel
theorem dX10_bearByChance_1 : decode cX10_bearByChance 1 = .ok (.getfield 46, 3) := by decide +kernel
theorem dX10_bearByChance_4 : decode cX10_bearByChance 4 = .ok (.aload_n 0, 1) := by decide +kernel
theorem dX10_bearByChance_5 : decode cX10_bearByChance 5 = .ok (.getfield 10, 3) := by decide +kernel
theorem dX10_bearByChance_8 : decode cX10_bearByChance 8 = .ok (.iload_n 1, 1) := by decide +kernel
theorem dX10_bearByChance_9 : decode cX10_bearByChance 9 = .ok (.invokevirtual 106, 3) := by decide +kernel
theorem dX10_bearByChance_12 : decode cX10_bearByChance 12 = .ok (.invokevirtual 233, 3) := by decide +kernel
theorem dX10_bearByChance_15 : decode cX10_bearByChance 15 = .ok (.iconst 0, 1) := by decide +kernel
theorem dX10_bearByChance_16 : decode cX10_bearByChance 16 = .ok (.istore 4, 2) := by decide +kernel
theorem dX10_bearByChance_18 : decode cX10_bearByChance 18 = .ok (.iload 4, 2) := by decide +kernel
theorem dX10_bearByChance_20 : decode cX10_bearByChance 20 = .ok (.iload_n 3, 1) := by decide +kernel
theorem dX10_bearByChance_21 : decode cX10_bearByChance 21 = .ok (.if_icmp .ge 40, 3) := by decide +kernel
theorem dX10_bearByChance_24 : decode cX10_bearByChance 24 = .ok (.aload_n 0, 1) := by decide +kernel
theorem dX10_bearByChance_25 : decode cX10_bearByChance 25 = .ok (.getfield 46, 3) := by decide +kernel
theorem dX10_bearByChance_28 : decode cX10_bearByChance 28 = .ok (.aload_n 0, 1) := by decide +kernel
theorem dX10_bearByChance_29 : decode cX10_bearByChance 29 = .ok (.getfield 10, 3) := by decide +kernel
theorem dX10_bearByChance_32 : decode cX10_bearByChance 32 = .ok (.getfield 239, 3) := by decide +kernel
theorem dX10_bearByChance_35 : decode cX10_bearByChance 35 = .ok (.invokevirtual 387, 3) := by decide +kernel
theorem dX10_bearByChance_38 : decode cX10_bearByChance 38 = .ok (.iload_n 2, 1) := by decide +kernel
theorem dX10_bearByChance_39 : decode cX10_bearByChance 39 = .ok (.iload 4, 2) := by decide +kernel
theorem dX10_bearByChance_41 : decode cX10_bearByChance 41 = .ok (.ishr, 1) := by decide +kernel
theorem dX10_bearByChance_42 : decode cX10_bearByChance 42 = .ok (.iconst 1, 1) := by decide +kernel
theorem dX10_bearByChance_43 : decode cX10_bearByChance 43 = .ok (.iand, 1) := by decide +kernel
theorem dX10_bearByChance_44 : decode cX10_bearByChance 44 = .ok (.iconst 1, 1) := by decide +kernel
theorem dX10_bearByChance_45 : decode cX10_bearByChance 45 = .ok (.if_icmp .ne 10, 3) := by decide +kernel
theorem dX10_bearByChance_48 : decode cX10_bearByChance 48 = .ok (.aload_n 0, 1) := by decide +kernel
theorem dX10_bearByChance_49 : decode cX10_bearByChance 49 = .ok (.getfield 46, 3) := by decide +kernel
theorem dX10_bearByChance_52 : decode cX10_bearByChance 52 = .ok (.invokevirtual 390, 3) := by decide +kernel
theorem dX10_bearByChance_55 : decode cX10_bearByChance 55 = .ok (.iinc 4 1, 3) := by decide +kernel
theorem dX10_bearByChance_58 : decode cX10_bearByChance 58 = .ok (.goto (-40), 3) := by decide +kernel
theorem dX10_bearByChance_61 : decode cX10_bearByChance 61 = .ok (.return_, 1) := by decide +kernel
theorem dX10_firstFree_0 : decode cX10_firstFree 0 = .ok (.bipush (-9), 2) := by decide +kernel
theorem dX10_firstFree_2 : decode cX10_firstFree 2 = .ok (.istore_n 1, 1) := by decide +kernel
theorem dX10_firstFree_3 : decode cX10_firstFree 3 = .ok (.bipush 101, 2) := by decide +kernel
theorem dX10_firstFree_5 : decode cX10_firstFree 5 = .ok (.istore_n 2, 1) := by decide +kernel
theorem dX10_firstFree_6 : decode cX10_firstFree 6 = .ok (.iconst 0, 1) := by decide +kernel
theorem dX10_firstFree_7 : decode cX10_firstFree 7 = .ok (.istore_n 3, 1) := by decide +kernel
theorem dX10_firstFree_8 : decode cX10_firstFree 8 = .ok (.iload_n 3, 1) := by decide +kernel
theorem dX10_firstFree_9 : decode cX10_firstFree 9 = .ok (.aload_n 0, 1) := by decide +kernel
theorem dX10_firstFree_10 : decode cX10_firstFree 10 = .ok (.getfield 10, 3) := by decide +kernel
theorem dX10_firstFree_13 : decode cX10_firstFree 13 = .ok (.getfield 255, 3) := by decide +kernel
theorem dX10_firstFree_16 : decode cX10_firstFree 16 = .ok (.if_icmp .ge 35, 3) := by decide +kernel
theorem dX10_firstFree_19 : decode cX10_firstFree 19 = .ok (.aload_n 0, 1) := by decide +kernel
theorem dX10_firstFree_20 : decode cX10_firstFree 20 = .ok (.iload_n 3, 1) := by decide +kernel
theorem dX10_firstFree_21 : decode cX10_firstFree 21 = .ok (.iconst 0, 1) := by decide +kernel
theorem dX10_firstFree_22 : decode cX10_firstFree 22 = .ok (.invokevirtual 184, 3) := by decide +kernel
theorem dX10_firstFree_25 : decode cX10_firstFree 25 = .ok (.istore 4, 2) := by decide +kernel
theorem dX10_firstFree_27 : decode cX10_firstFree 27 = .ok (.iload 4, 2) := by decide +kernel
theorem dX10_firstFree_29 : decode cX10_firstFree 29 = .ok (.bipush (-9), 2) := by decide +kernel
theorem dX10_firstFree_31 : decode cX10_firstFree 31 = .ok (.if_icmp .eq 14, 3) := by decide +kernel
theorem dX10_firstFree_34 : decode cX10_firstFree 34 = .ok (.iload 4, 2) := by decide +kernel
theorem dX10_firstFree_36 : decode cX10_firstFree 36 = .ok (.iload_n 2, 1) := by decide +kernel
theorem dX10_firstFree_37 : decode cX10_firstFree 37 = .ok (.if_icmp .ge 8, 3) := by decide +kernel
theorem dX10_firstFree_40 : decode cX10_firstFree 40 = .ok (.iload 4, 2) := by decide +kernel
theorem dX10_firstFree_42 : decode cX10_firstFree 42 = .ok (.istore_n 2, 1) := by decide +kernel
theorem dX10_firstFree_43 : decode cX10_firstFree 43 = .ok (.iload_n 3, 1) := by decide +kernel
theorem dX10_firstFree_44 : decode cX10_firstFree 44 = .ok (.istore_n 1, 1) := by decide +kernel
theorem dX10_firstFree_45 : decode cX10_firstFree 45 = .ok (.iinc 3 1, 3) := by decide +kernel
theorem dX10_firstFree_48 : decode cX10_firstFree 48 = .ok (.goto (-40), 3) := by decide +kernel
theorem dX10_firstFree_51 : decode cX10_firstFree 51 = .ok (.iload_n 1, 1) := by decide +kernel
theorem dX10_firstFree_52 : decode cX10_firstFree 52 = .ok (.ireturn, 1) := by decide +kernel
theorem dX10_growing_0 : decode cX10_growing 0 = .ok (.iconst 0, 1) := by decide +kernel
theorem dX10_growing_1 : decode cX10_growing 1 = .ok (.istore_n 1, 1) := by decide +kernel
theorem dX10_growing_2 : decode cX10_growing 2 = .ok (.iconst 0, 1) := by decide +kernel
theorem dX10_growing_3 : decode cX10_growing 3 = .ok (.istore_n 2, 1) := by decide +kernel
theorem dX10_growing_4 : decode cX10_growing 4 = .ok (.iload_n 2, 1) := by decide +kernel
theorem dX10_growing_5 : decode cX10_growing 5 = .ok (.aload_n 0, 1) := by decide +kernel
theorem dX10_growing_6 : decode cX10_growing 6 = .ok (.getfield 10, 3) := by decide +kernel
theorem dX10_growing_9 : decode cX10_growing 9 = .ok (.getfield 255, 3) := by decide +kernel
theorem dX10_growing_12 : decode cX10_growing 12 = .ok (.if_icmp .ge 42, 3) := by decide +kernel
theorem dX10_growing_15 : decode cX10_growing 15 = .ok (.aload_n 0, 1) := by decide +kernel
theorem dX10_growing_16 : decode cX10_growing 16 = .ok (.iload_n 2, 1) := by decide +kernel
theorem dX10_growing_17 : decode cX10_growing 17 = .ok (.iconst 1, 1) := by decide +kernel
theorem dX10_growing_18 : decode cX10_growing 18 = .ok (.invokevirtual 174, 3) := by decide +kernel
theorem dX10_growing_21 : decode cX10_growing 21 = .ok (.aload_n 0, 1) := by decide +kernel
theorem dX10_growing_22 : decode cX10_growing 22 = .ok (.getfield 46, 3) := by decide +kernel
theorem dX10_growing_25 : decode cX10_growing 25 = .ok (.getfield 113, 3) := by decide +kernel
theorem dX10_growing_28 : decode cX10_growing 28 = .ok (.aload_n 0, 1) := by decide +kernel
theorem dX10_growing_29 : decode cX10_growing 29 = .ok (.getfield 10, 3) := by decide +kernel
theorem dX10_growing_32 : decode cX10_growing 32 = .ok (.iload_n 2, 1) := by decide +kernel
theorem dX10_growing_33 : decode cX10_growing 33 = .ok (.invokevirtual 106, 3) := by decide +kernel
theorem dX10_growing_36 : decode cX10_growing 36 = .ok (.getfield 113, 3) := by decide +kernel
theorem dX10_growing_39 : decode cX10_growing 39 = .ok (.if_icmp .le 9, 3) := by decide +kernel
theorem dX10_growing_42 : decode cX10_growing 42 = .ok (.iload_n 1, 1) := by decide +kernel
theorem dX10_growing_43 : decode cX10_growing 43 = .ok (.iconst 1, 1) := by decide +kernel
theorem dX10_growing_44 : decode cX10_growing 44 = .ok (.iload_n 2, 1) := by decide +kernel
theorem dX10_growing_45 : decode cX10_growing 45 = .ok (.ishl, 1) := by decide +kernel
theorem dX10_growing_46 : decode cX10_growing 46 = .ok (.ior, 1) := by decide +kernel
theorem dX10_growing_47 : decode cX10_growing 47 = .ok (.istore_n 1, 1) := by decide +kernel
theorem dX10_growing_48 : decode cX10_growing 48 = .ok (.iinc 2 1, 3) := by decide +kernel
theorem dX10_growing_51 : decode cX10_growing 51 = .ok (.goto (-47), 3) := by decide +kernel
theorem dX10_growing_54 : decode cX10_growing 54 = .ok (.iload_n 1, 1) := by decide +kernel
theorem dX10_growing_55 : decode cX10_growing 55 = .ok (.ireturn, 1) := by decide +kernel
theorem dX10_firstStuck_0 : decode cX10_firstStuck 0 = .ok (.aload_n 0, 1) := by decide +kernel
theorem dX10_firstStuck_1 : decode cX10_firstStuck 1 = .ok (.getfield 16, 3) := by decide +kernel
theorem dX10_firstStuck_4 : decode cX10_firstStuck 4 = .ok (.aload_n 0, 1) := by decide +kernel
theorem dX10_firstStuck_5 : decode cX10_firstStuck 5 = .ok (.getfield 10, 3) := by decide +kernel
theorem dX10_firstStuck_8 : decode cX10_firstStuck 8 = .ok (.invokevirtual 74, 3) := by decide +kernel
theorem dX10_firstStuck_11 : decode cX10_firstStuck 11 = .ok (.iconst 0, 1) := by decide +kernel
theorem dX10_firstStuck_12 : decode cX10_firstStuck 12 = .ok (.istore_n 1, 1) := by decide +kernel
theorem dX10_firstStuck_13 : decode cX10_firstStuck 13 = .ok (.iload_n 1, 1) := by decide +kernel
theorem dX10_firstStuck_14 : decode cX10_firstStuck 14 = .ok (.bipush 100, 2) := by decide +kernel
theorem dX10_firstStuck_16 : decode cX10_firstStuck 16 = .ok (.if_icmp .gt 28, 3) := by decide +kernel
theorem dX10_firstStuck_19 : decode cX10_firstStuck 19 = .ok (.aload_n 0, 1) := by decide +kernel
theorem dX10_firstStuck_20 : decode cX10_firstStuck 20 = .ok (.getfield 16, 3) := by decide +kernel
theorem dX10_firstStuck_23 : decode cX10_firstStuck 23 = .ok (.invokevirtual 393, 3) := by decide +kernel
theorem dX10_firstStuck_26 : decode cX10_firstStuck 26 = .ok (.ifCond .eq 5, 3) := by decide +kernel
theorem dX10_firstStuck_29 : decode cX10_firstStuck 29 = .ok (.iload_n 1, 1) := by decide +kernel
theorem dX10_firstStuck_30 : decode cX10_firstStuck 30 = .ok (.ireturn, 1) := by decide +kernel
theorem dX10_firstStuck_31 : decode cX10_firstStuck 31 = .ok (.aload_n 0, 1) := by decide +kernel
theorem dX10_firstStuck_32 : decode cX10_firstStuck 32 = .ok (.getfield 16, 3) := by decide +kernel
theorem dX10_firstStuck_35 : decode cX10_firstStuck 35 = .ok (.invokevirtual 341, 3) := by decide +kernel
theorem dX10_firstStuck_38 : decode cX10_firstStuck 38 = .ok (.iinc 1 1, 3) := by decide +kernel
theorem dX10_firstStuck_41 : decode cX10_firstStuck 41 = .ok (.goto (-28), 3) := by decide +kernel
theorem dX10_firstStuck_44 : decode cX10_firstStuck 44 = .ok (.bipush (-9), 2) := by decide +kernel
theorem dX10_firstStuck_46 : decode cX10_firstStuck 46 = .ok (.ireturn, 1) := by decide +kernel
theorem dX10_cheapestFamily_0 : decode cX10_cheapestFamily 0 = .ok (.bipush (-9), 2) := by decide +kernel
theorem dX10_cheapestFamily_2 : decode cX10_cheapestFamily 2 = .ok (.istore_n 1, 1) := by decide +kernel
theorem dX10_cheapestFamily_3 : decode cX10_cheapestFamily 3 = .ok (.iconst 0, 1) := by decide +kernel
theorem dX10_cheapestFamily_4 : decode cX10_cheapestFamily 4 = .ok (.istore_n 2, 1) := by decide +kernel
theorem dX10_cheapestFamily_5 : decode cX10_cheapestFamily 5 = .ok (.iload_n 2, 1) := by decide +kernel
theorem dX10_cheapestFamily_6 : decode cX10_cheapestFamily 6 = .ok (.aload_n 0, 1) := by decide +kernel
theorem dX10_cheapestFamily_7 : decode cX10_cheapestFamily 7 = .ok (.getfield 10, 3) := by decide +kernel
theorem dX10_cheapestFamily_10 : decode cX10_cheapestFamily 10 = .ok (.getfield 255, 3) := by decide +kernel
theorem dX10_cheapestFamily_13 : decode cX10_cheapestFamily 13 = .ok (.if_icmp .ge 39, 3) := by decide +kernel
theorem dX10_cheapestFamily_16 : decode cX10_cheapestFamily 16 = .ok (.iload_n 1, 1) := by decide +kernel
theorem dX10_cheapestFamily_17 : decode cX10_cheapestFamily 17 = .ok (.bipush (-9), 2) := by decide +kernel
theorem dX10_cheapestFamily_19 : decode cX10_cheapestFamily 19 = .ok (.if_icmp .eq 25, 3) := by decide +kernel
theorem dX10_cheapestFamily_22 : decode cX10_cheapestFamily 22 = .ok (.aload_n 0, 1) := by decide +kernel
theorem dX10_cheapestFamily_23 : decode cX10_cheapestFamily 23 = .ok (.getfield 10, 3) := by decide +kernel
theorem dX10_cheapestFamily_26 : decode cX10_cheapestFamily 26 = .ok (.iload_n 2, 1) := by decide +kernel
theorem dX10_cheapestFamily_27 : decode cX10_cheapestFamily 27 = .ok (.invokevirtual 106, 3) := by decide +kernel
theorem dX10_cheapestFamily_30 : decode cX10_cheapestFamily 30 = .ok (.aload_n 0, 1) := by decide +kernel
theorem dX10_cheapestFamily_31 : decode cX10_cheapestFamily 31 = .ok (.getfield 10, 3) := by decide +kernel
theorem dX10_cheapestFamily_34 : decode cX10_cheapestFamily 34 = .ok (.iload_n 1, 1) := by decide +kernel
theorem dX10_cheapestFamily_35 : decode cX10_cheapestFamily 35 = .ok (.invokevirtual 106, 3) := by decide +kernel
theorem dX10_cheapestFamily_38 : decode cX10_cheapestFamily 38 = .ok (.invokevirtual 396, 3) := by decide +kernel
theorem dX10_cheapestFamily_41 : decode cX10_cheapestFamily 41 = .ok (.ifCond .eq 5, 3) := by decide +kernel
theorem dX10_cheapestFamily_44 : decode cX10_cheapestFamily 44 = .ok (.iload_n 2, 1) := by decide +kernel
theorem dX10_cheapestFamily_45 : decode cX10_cheapestFamily 45 = .ok (.istore_n 1, 1) := by decide +kernel
theorem dX10_cheapestFamily_46 : decode cX10_cheapestFamily 46 = .ok (.iinc 2 1, 3) := by decide +kernel
theorem dX10_cheapestFamily_49 : decode cX10_cheapestFamily 49 = .ok (.goto (-44), 3) := by decide +kernel
theorem dX10_cheapestFamily_52 : decode cX10_cheapestFamily 52 = .ok (.iload_n 1, 1) := by decide +kernel
theorem dX10_cheapestFamily_53 : decode cX10_cheapestFamily 53 = .ok (.ireturn, 1) := by decide +kernel
theorem dX10_bornFree_0 : decode cX10_bornFree 0 = .ok (.iconst 0, 1) := by decide +kernel
theorem dX10_bornFree_1 : decode cX10_bornFree 1 = .ok (.istore_n 2, 1) := by decide +kernel
theorem dX10_bornFree_2 : decode cX10_bornFree 2 = .ok (.iconst 0, 1) := by decide +kernel
theorem dX10_bornFree_3 : decode cX10_bornFree 3 = .ok (.istore_n 3, 1) := by decide +kernel
theorem dX10_bornFree_4 : decode cX10_bornFree 4 = .ok (.iload_n 3, 1) := by decide +kernel
theorem dX10_bornFree_5 : decode cX10_bornFree 5 = .ok (.aload_n 0, 1) := by decide +kernel
theorem dX10_bornFree_6 : decode cX10_bornFree 6 = .ok (.getfield 10, 3) := by decide +kernel
theorem dX10_bornFree_9 : decode cX10_bornFree 9 = .ok (.getfield 255, 3) := by decide +kernel
theorem dX10_bornFree_12 : decode cX10_bornFree 12 = .ok (.if_icmp .ge 25, 3) := by decide +kernel
theorem dX10_bornFree_15 : decode cX10_bornFree 15 = .ok (.aload_n 0, 1) := by decide +kernel
theorem dX10_bornFree_16 : decode cX10_bornFree 16 = .ok (.iload_n 3, 1) := by decide +kernel
theorem dX10_bornFree_17 : decode cX10_bornFree 17 = .ok (.iload_n 1, 1) := by decide +kernel
theorem dX10_bornFree_18 : decode cX10_bornFree 18 = .ok (.invokevirtual 174, 3) := by decide +kernel
theorem dX10_bornFree_21 : decode cX10_bornFree 21 = .ok (.iload_n 2, 1) := by decide +kernel
theorem dX10_bornFree_22 : decode cX10_bornFree 22 = .ok (.aload_n 0, 1) := by decide +kernel
theorem dX10_bornFree_23 : decode cX10_bornFree 23 = .ok (.getfield 46, 3) := by decide +kernel
theorem dX10_bornFree_26 : decode cX10_bornFree 26 = .ok (.getfield 400, 3) := by decide +kernel
theorem dX10_bornFree_29 : decode cX10_bornFree 29 = .ok (.iadd, 1) := by decide +kernel
theorem dX10_bornFree_30 : decode cX10_bornFree 30 = .ok (.istore_n 2, 1) := by decide +kernel
theorem dX10_bornFree_31 : decode cX10_bornFree 31 = .ok (.iinc 3 1, 3) := by decide +kernel
theorem dX10_bornFree_34 : decode cX10_bornFree 34 = .ok (.goto (-30), 3) := by decide +kernel
theorem dX10_bornFree_37 : decode cX10_bornFree 37 = .ok (.iload_n 2, 1) := by decide +kernel
theorem dX10_bornFree_38 : decode cX10_bornFree 38 = .ok (.ireturn, 1) := by decide +kernel
theorem dX10_ranked_0 : decode cX10_ranked 0 = .ok (.iconst 0, 1) := by decide +kernel
theorem dX10_ranked_1 : decode cX10_ranked 1 = .ok (.istore_n 2, 1) := by decide +kernel
theorem dX10_ranked_2 : decode cX10_ranked 2 = .ok (.iload_n 2, 1) := by decide +kernel
theorem dX10_ranked_3 : decode cX10_ranked 3 = .ok (.aload_n 0, 1) := by decide +kernel
theorem dX10_ranked_4 : decode cX10_ranked 4 = .ok (.getfield 10, 3) := by decide +kernel
theorem dX10_ranked_7 : decode cX10_ranked 7 = .ok (.getfield 255, 3) := by decide +kernel
theorem dX10_ranked_10 : decode cX10_ranked 10 = .ok (.if_icmp .ge 20, 3) := by decide +kernel
theorem dX10_ranked_13 : decode cX10_ranked 13 = .ok (.aload_n 0, 1) := by decide +kernel
theorem dX10_ranked_14 : decode cX10_ranked 14 = .ok (.iload_n 2, 1) := by decide +kernel
theorem dX10_ranked_15 : decode cX10_ranked 15 = .ok (.invokevirtual 402, 3) := by decide +kernel
theorem dX10_ranked_18 : decode cX10_ranked 18 = .ok (.iload_n 1, 1) := by decide +kernel
theorem dX10_ranked_19 : decode cX10_ranked 19 = .ok (.if_icmp .ne 5, 3) := by decide +kernel
theorem dX10_ranked_22 : decode cX10_ranked 22 = .ok (.iload_n 2, 1) := by decide +kernel
theorem dX10_ranked_23 : decode cX10_ranked 23 = .ok (.ireturn, 1) := by decide +kernel
theorem dX10_ranked_24 : decode cX10_ranked 24 = .ok (.iinc 2 1, 3) := by decide +kernel
theorem dX10_ranked_27 : decode cX10_ranked 27 = .ok (.goto (-25), 3) := by decide +kernel
theorem dX10_ranked_30 : decode cX10_ranked 30 = .ok (.bipush (-9), 2) := by decide +kernel
theorem dX10_ranked_32 : decode cX10_ranked 32 = .ok (.ireturn, 1) := by decide +kernel
theorem dX10_ranksAbove_0 : decode cX10_ranksAbove 0 = .ok (.aload_n 0, 1) := by decide +kernel
theorem dX10_ranksAbove_1 : decode cX10_ranksAbove 1 = .ok (.getfield 10, 3) := by decide +kernel
theorem dX10_ranksAbove_4 : decode cX10_ranksAbove 4 = .ok (.iload_n 1, 1) := by decide +kernel
theorem dX10_ranksAbove_5 : decode cX10_ranksAbove 5 = .ok (.invokevirtual 106, 3) := by decide +kernel
theorem dX10_ranksAbove_8 : decode cX10_ranksAbove 8 = .ok (.invokevirtual 122, 3) := by decide +kernel
theorem dX10_ranksAbove_11 : decode cX10_ranksAbove 11 = .ok (.istore_n 2, 1) := by decide +kernel
theorem dX10_ranksAbove_12 : decode cX10_ranksAbove 12 = .ok (.iconst 0, 1) := by decide +kernel
theorem dX10_ranksAbove_13 : decode cX10_ranksAbove 13 = .ok (.istore_n 3, 1) := by decide +kernel
theorem dX10_ranksAbove_14 : decode cX10_ranksAbove 14 = .ok (.iconst 0, 1) := by decide +kernel
theorem dX10_ranksAbove_15 : decode cX10_ranksAbove 15 = .ok (.istore 4, 2) := by decide +kernel
theorem dX10_ranksAbove_17 : decode cX10_ranksAbove 17 = .ok (.iload 4, 2) := by decide +kernel
theorem dX10_ranksAbove_19 : decode cX10_ranksAbove 19 = .ok (.aload_n 0, 1) := by decide +kernel
theorem dX10_ranksAbove_20 : decode cX10_ranksAbove 20 = .ok (.getfield 10, 3) := by decide +kernel
theorem dX10_ranksAbove_23 : decode cX10_ranksAbove 23 = .ok (.getfield 255, 3) := by decide +kernel
theorem dX10_ranksAbove_26 : decode cX10_ranksAbove 26 = .ok (.if_icmp .ge 44, 3) := by decide +kernel
theorem dX10_ranksAbove_29 : decode cX10_ranksAbove 29 = .ok (.aload_n 0, 1) := by decide +kernel
theorem dX10_ranksAbove_30 : decode cX10_ranksAbove 30 = .ok (.getfield 10, 3) := by decide +kernel
theorem dX10_ranksAbove_33 : decode cX10_ranksAbove 33 = .ok (.iload 4, 2) := by decide +kernel
theorem dX10_ranksAbove_35 : decode cX10_ranksAbove 35 = .ok (.invokevirtual 106, 3) := by decide +kernel
theorem dX10_ranksAbove_38 : decode cX10_ranksAbove 38 = .ok (.invokevirtual 122, 3) := by decide +kernel
theorem dX10_ranksAbove_41 : decode cX10_ranksAbove 41 = .ok (.istore 5, 2) := by decide +kernel
theorem dX10_ranksAbove_43 : decode cX10_ranksAbove 43 = .ok (.iload 5, 2) := by decide +kernel
theorem dX10_ranksAbove_45 : decode cX10_ranksAbove 45 = .ok (.iload_n 2, 1) := by decide +kernel
theorem dX10_ranksAbove_46 : decode cX10_ranksAbove 46 = .ok (.if_icmp .gt 15, 3) := by decide +kernel
theorem dX10_ranksAbove_49 : decode cX10_ranksAbove 49 = .ok (.iload 5, 2) := by decide +kernel
theorem dX10_ranksAbove_51 : decode cX10_ranksAbove 51 = .ok (.iload_n 2, 1) := by decide +kernel
theorem dX10_ranksAbove_52 : decode cX10_ranksAbove 52 = .ok (.if_icmp .ne 12, 3) := by decide +kernel
theorem dX10_ranksAbove_55 : decode cX10_ranksAbove 55 = .ok (.iload 4, 2) := by decide +kernel
theorem dX10_ranksAbove_57 : decode cX10_ranksAbove 57 = .ok (.iload_n 1, 1) := by decide +kernel
theorem dX10_ranksAbove_58 : decode cX10_ranksAbove 58 = .ok (.if_icmp .ge 6, 3) := by decide +kernel
theorem dX10_ranksAbove_61 : decode cX10_ranksAbove 61 = .ok (.iinc 3 1, 3) := by decide +kernel
theorem dX10_ranksAbove_64 : decode cX10_ranksAbove 64 = .ok (.iinc 4 1, 3) := by decide +kernel
theorem dX10_ranksAbove_67 : decode cX10_ranksAbove 67 = .ok (.goto (-50), 3) := by decide +kernel
theorem dX10_ranksAbove_70 : decode cX10_ranksAbove 70 = .ok (.iload_n 3, 1) := by decide +kernel
theorem dX10_ranksAbove_71 : decode cX10_ranksAbove 71 = .ok (.ireturn, 1) := by decide +kernel
theorem dX10_isBearable_0 : decode cX10_isBearable 0 = .ok (.aload_n 0, 1) := by decide +kernel
theorem dX10_isBearable_1 : decode cX10_isBearable 1 = .ok (.getfield 16, 3) := by decide +kernel
theorem dX10_isBearable_4 : decode cX10_isBearable 4 = .ok (.aload_n 0, 1) := by decide +kernel
theorem dX10_isBearable_5 : decode cX10_isBearable 5 = .ok (.getfield 10, 3) := by decide +kernel
theorem dX10_isBearable_8 : decode cX10_isBearable 8 = .ok (.invokevirtual 74, 3) := by decide +kernel
theorem dX10_isBearable_11 : decode cX10_isBearable 11 = .ok (.aload_n 0, 1) := by decide +kernel
theorem dX10_isBearable_12 : decode cX10_isBearable 12 = .ok (.getfield 16, 3) := by decide +kernel
theorem dX10_isBearable_15 : decode cX10_isBearable 15 = .ok (.iload_n 1, 1) := by decide +kernel
theorem dX10_isBearable_16 : decode cX10_isBearable 16 = .ok (.invokevirtual 405, 3) := by decide +kernel
theorem dX10_isBearable_19 : decode cX10_isBearable 19 = .ok (.aload_n 0, 1) := by decide +kernel
theorem dX10_isBearable_20 : decode cX10_isBearable 20 = .ok (.getfield 16, 3) := by decide +kernel
theorem dX10_isBearable_23 : decode cX10_isBearable 23 = .ok (.iload_n 2, 1) := by decide +kernel
theorem dX10_isBearable_24 : decode cX10_isBearable 24 = .ok (.invokevirtual 408, 3) := by decide +kernel
theorem dX10_isBearable_27 : decode cX10_isBearable 27 = .ok (.iconst 0, 1) := by decide +kernel
theorem dX10_isBearable_28 : decode cX10_isBearable 28 = .ok (.istore 4, 2) := by decide +kernel
theorem dX10_isBearable_30 : decode cX10_isBearable 30 = .ok (.iload 4, 2) := by decide +kernel
theorem dX10_isBearable_32 : decode cX10_isBearable 32 = .ok (.aload_n 0, 1) := by decide +kernel
theorem dX10_isBearable_33 : decode cX10_isBearable 33 = .ok (.getfield 16, 3) := by decide +kernel
theorem dX10_isBearable_36 : decode cX10_isBearable 36 = .ok (.getfield 255, 3) := by decide +kernel
theorem dX10_isBearable_39 : decode cX10_isBearable 39 = .ok (.if_icmp .ge 27, 3) := by decide +kernel
theorem dX10_isBearable_42 : decode cX10_isBearable 42 = .ok (.aload_n 0, 1) := by decide +kernel
theorem dX10_isBearable_43 : decode cX10_isBearable 43 = .ok (.getfield 16, 3) := by decide +kernel
theorem dX10_isBearable_46 : decode cX10_isBearable 46 = .ok (.iload 4, 2) := by decide +kernel
theorem dX10_isBearable_48 : decode cX10_isBearable 48 = .ok (.invokevirtual 106, 3) := by decide +kernel
theorem dX10_isBearable_51 : decode cX10_isBearable 51 = .ok (.invokevirtual 122, 3) := by decide +kernel
theorem dX10_isBearable_54 : decode cX10_isBearable 54 = .ok (.iload_n 3, 1) := by decide +kernel
theorem dX10_isBearable_55 : decode cX10_isBearable 55 = .ok (.if_icmp .le 5, 3) := by decide +kernel
theorem dX10_isBearable_58 : decode cX10_isBearable 58 = .ok (.iconst 0, 1) := by decide +kernel
theorem dX10_isBearable_59 : decode cX10_isBearable 59 = .ok (.ireturn, 1) := by decide +kernel
theorem dX10_isBearable_60 : decode cX10_isBearable 60 = .ok (.iinc 4 1, 3) := by decide +kernel
theorem dX10_isBearable_63 : decode cX10_isBearable 63 = .ok (.goto (-33), 3) := by decide +kernel
theorem dX10_isBearable_66 : decode cX10_isBearable 66 = .ok (.iconst 1, 1) := by decide +kernel
theorem dX10_isBearable_67 : decode cX10_isBearable 67 = .ok (.ireturn, 1) := by decide +kernel
theorem dX10_isToldBy_0 : decode cX10_isToldBy 0 = .ok (.aload_n 0, 1) := by decide +kernel
theorem dX10_isToldBy_1 : decode cX10_isToldBy 1 = .ok (.getfield 16, 3) := by decide +kernel
theorem dX10_isToldBy_4 : decode cX10_isToldBy 4 = .ok (.aload_n 0, 1) := by decide +kernel
theorem dX10_isToldBy_5 : decode cX10_isToldBy 5 = .ok (.getfield 10, 3) := by decide +kernel
theorem dX10_isToldBy_8 : decode cX10_isToldBy 8 = .ok (.invokevirtual 74, 3) := by decide +kernel
theorem dX10_isToldBy_11 : decode cX10_isToldBy 11 = .ok (.iconst 0, 1) := by decide +kernel
theorem dX10_isToldBy_12 : decode cX10_isToldBy 12 = .ok (.istore_n 2, 1) := by decide +kernel
theorem dX10_isToldBy_13 : decode cX10_isToldBy 13 = .ok (.iload_n 2, 1) := by decide +kernel
theorem dX10_isToldBy_14 : decode cX10_isToldBy 14 = .ok (.aload_n 0, 1) := by decide +kernel
theorem dX10_isToldBy_15 : decode cX10_isToldBy 15 = .ok (.getfield 16, 3) := by decide +kernel
theorem dX10_isToldBy_18 : decode cX10_isToldBy 18 = .ok (.getfield 255, 3) := by decide +kernel
theorem dX10_isToldBy_21 : decode cX10_isToldBy 21 = .ok (.if_icmp .ge 21, 3) := by decide +kernel
theorem dX10_isToldBy_24 : decode cX10_isToldBy 24 = .ok (.aload_n 0, 1) := by decide +kernel
theorem dX10_isToldBy_25 : decode cX10_isToldBy 25 = .ok (.getfield 16, 3) := by decide +kernel
theorem dX10_isToldBy_28 : decode cX10_isToldBy 28 = .ok (.iload_n 2, 1) := by decide +kernel
theorem dX10_isToldBy_29 : decode cX10_isToldBy 29 = .ok (.invokevirtual 106, 3) := by decide +kernel
theorem dX10_isToldBy_32 : decode cX10_isToldBy 32 = .ok (.iconst 0, 1) := by decide +kernel
theorem dX10_isToldBy_33 : decode cX10_isToldBy 33 = .ok (.putfield 113, 3) := by decide +kernel
theorem dX10_isToldBy_36 : decode cX10_isToldBy 36 = .ok (.iinc 2 1, 3) := by decide +kernel
theorem dX10_isToldBy_39 : decode cX10_isToldBy 39 = .ok (.goto (-26), 3) := by decide +kernel
theorem dX10_isToldBy_42 : decode cX10_isToldBy 42 = .ok (.aload_n 0, 1) := by decide +kernel
theorem dX10_isToldBy_43 : decode cX10_isToldBy 43 = .ok (.getfield 16, 3) := by decide +kernel
theorem dX10_isToldBy_46 : decode cX10_isToldBy 46 = .ok (.iload_n 1, 1) := by decide +kernel
theorem dX10_isToldBy_47 : decode cX10_isToldBy 47 = .ok (.invokevirtual 405, 3) := by decide +kernel
theorem dX10_isToldBy_50 : decode cX10_isToldBy 50 = .ok (.iconst 0, 1) := by decide +kernel
theorem dX10_isToldBy_51 : decode cX10_isToldBy 51 = .ok (.istore_n 2, 1) := by decide +kernel
theorem dX10_isToldBy_52 : decode cX10_isToldBy 52 = .ok (.iload_n 2, 1) := by decide +kernel
theorem dX10_isToldBy_53 : decode cX10_isToldBy 53 = .ok (.aload_n 0, 1) := by decide +kernel
theorem dX10_isToldBy_54 : decode cX10_isToldBy 54 = .ok (.getfield 16, 3) := by decide +kernel
theorem dX10_isToldBy_57 : decode cX10_isToldBy 57 = .ok (.getfield 255, 3) := by decide +kernel
theorem dX10_isToldBy_60 : decode cX10_isToldBy 60 = .ok (.if_icmp .ge 30, 3) := by decide +kernel
theorem dX10_isToldBy_63 : decode cX10_isToldBy 63 = .ok (.aload_n 0, 1) := by decide +kernel
theorem dX10_isToldBy_64 : decode cX10_isToldBy 64 = .ok (.iload_n 2, 1) := by decide +kernel
theorem dX10_isToldBy_65 : decode cX10_isToldBy 65 = .ok (.aload_n 0, 1) := by decide +kernel
theorem dX10_isToldBy_66 : decode cX10_isToldBy 66 = .ok (.getfield 16, 3) := by decide +kernel
theorem dX10_isToldBy_69 : decode cX10_isToldBy 69 = .ok (.iload_n 2, 1) := by decide +kernel
theorem dX10_isToldBy_70 : decode cX10_isToldBy 70 = .ok (.invokevirtual 106, 3) := by decide +kernel
theorem dX10_isToldBy_73 : decode cX10_isToldBy 73 = .ok (.getfield 113, 3) := by decide +kernel
theorem dX10_isToldBy_76 : decode cX10_isToldBy 76 = .ok (.invokevirtual 358, 3) := by decide +kernel
theorem dX10_isToldBy_79 : decode cX10_isToldBy 79 = .ok (.ifCond .ne 5, 3) := by decide +kernel
theorem dX10_isToldBy_82 : decode cX10_isToldBy 82 = .ok (.iconst 0, 1) := by decide +kernel
theorem dX10_isToldBy_83 : decode cX10_isToldBy 83 = .ok (.ireturn, 1) := by decide +kernel
theorem dX10_isToldBy_84 : decode cX10_isToldBy 84 = .ok (.iinc 2 1, 3) := by decide +kernel
theorem dX10_isToldBy_87 : decode cX10_isToldBy 87 = .ok (.goto (-35), 3) := by decide +kernel
theorem dX10_isToldBy_90 : decode cX10_isToldBy 90 = .ok (.iconst 1, 1) := by decide +kernel
theorem dX10_isToldBy_91 : decode cX10_isToldBy 91 = .ok (.ireturn, 1) := by decide +kernel
theorem dX10_isTold_0 : decode cX10_isTold 0 = .ok (.iload_n 1, 1) := by decide +kernel
theorem dX10_isTold_1 : decode cX10_isTold 1 = .ok (.ifCond .lt 31, 3) := by decide +kernel
theorem dX10_isTold_4 : decode cX10_isTold 4 = .ok (.iload_n 1, 1) := by decide +kernel
theorem dX10_isTold_5 : decode cX10_isTold 5 = .ok (.aload_n 0, 1) := by decide +kernel
theorem dX10_isTold_6 : decode cX10_isTold 6 = .ok (.getfield 36, 3) := by decide +kernel
theorem dX10_isTold_9 : decode cX10_isTold 9 = .ok (.arraylength, 1) := by decide +kernel
theorem dX10_isTold_10 : decode cX10_isTold 10 = .ok (.if_icmp .ge 22, 3) := by decide +kernel
theorem dX10_isTold_13 : decode cX10_isTold 13 = .ok (.aload_n 0, 1) := by decide +kernel
theorem dX10_isTold_14 : decode cX10_isTold 14 = .ok (.getfield 36, 3) := by decide +kernel
theorem dX10_isTold_17 : decode cX10_isTold 17 = .ok (.iload_n 1, 1) := by decide +kernel
theorem dX10_isTold_18 : decode cX10_isTold 18 = .ok (.iaload, 1) := by decide +kernel
theorem dX10_isTold_19 : decode cX10_isTold 19 = .ok (.bipush 99, 2) := by decide +kernel
theorem dX10_isTold_21 : decode cX10_isTold 21 = .ok (.iload_n 2, 1) := by decide +kernel
theorem dX10_isTold_22 : decode cX10_isTold 22 = .ok (.invokestatic 317, 3) := by decide +kernel
theorem dX10_isTold_25 : decode cX10_isTold 25 = .ok (.if_icmp .ne 7, 3) := by decide +kernel
theorem dX10_isTold_28 : decode cX10_isTold 28 = .ok (.iconst 1, 1) := by decide +kernel
theorem dX10_isTold_29 : decode cX10_isTold 29 = .ok (.goto 4, 3) := by decide +kernel
theorem dX10_isTold_32 : decode cX10_isTold 32 = .ok (.iconst 0, 1) := by decide +kernel
theorem dX10_isTold_33 : decode cX10_isTold 33 = .ok (.ireturn, 1) := by decide +kernel
theorem dX10_factorial_0 : decode cX10_factorial 0 = .ok (.iconst 1, 1) := by decide +kernel
theorem dX10_factorial_1 : decode cX10_factorial 1 = .ok (.istore_n 1, 1) := by decide +kernel
theorem dX10_factorial_2 : decode cX10_factorial 2 = .ok (.iconst 2, 1) := by decide +kernel
theorem dX10_factorial_3 : decode cX10_factorial 3 = .ok (.istore_n 2, 1) := by decide +kernel
theorem dX10_factorial_4 : decode cX10_factorial 4 = .ok (.iload_n 2, 1) := by decide +kernel
theorem dX10_factorial_5 : decode cX10_factorial 5 = .ok (.iload_n 0, 1) := by decide +kernel
theorem dX10_factorial_6 : decode cX10_factorial 6 = .ok (.if_icmp .gt 13, 3) := by decide +kernel
theorem dX10_factorial_9 : decode cX10_factorial 9 = .ok (.iload_n 1, 1) := by decide +kernel
theorem dX10_factorial_10 : decode cX10_factorial 10 = .ok (.iload_n 2, 1) := by decide +kernel
theorem dX10_factorial_11 : decode cX10_factorial 11 = .ok (.imul, 1) := by decide +kernel
theorem dX10_factorial_12 : decode cX10_factorial 12 = .ok (.istore_n 1, 1) := by decide +kernel
theorem dX10_factorial_13 : decode cX10_factorial 13 = .ok (.iinc 2 1, 3) := by decide +kernel
theorem dX10_factorial_16 : decode cX10_factorial 16 = .ok (.goto (-12), 3) := by decide +kernel
theorem dX10_factorial_19 : decode cX10_factorial 19 = .ok (.iload_n 1, 1) := by decide +kernel
theorem dX10_factorial_20 : decode cX10_factorial 20 = .ok (.ireturn, 1) := by decide +kernel
theorem dX10_arrange_0 : decode cX10_arrange 0 = .ok (.iload_n 1, 1) := by decide +kernel
theorem dX10_arrange_1 : decode cX10_arrange 1 = .ok (.istore_n 3, 1) := by decide +kernel
theorem dX10_arrange_2 : decode cX10_arrange 2 = .ok (.aload_n 0, 1) := by decide +kernel
theorem dX10_arrange_3 : decode cX10_arrange 3 = .ok (.getfield 10, 3) := by decide +kernel
theorem dX10_arrange_6 : decode cX10_arrange 6 = .ok (.getfield 212, 3) := by decide +kernel
theorem dX10_arrange_9 : decode cX10_arrange 9 = .ok (.istore 4, 2) := by decide +kernel
theorem dX10_arrange_11 : decode cX10_arrange 11 = .ok (.iconst 0, 1) := by decide +kernel
theorem dX10_arrange_12 : decode cX10_arrange 12 = .ok (.istore 5, 2) := by decide +kernel
theorem dX10_arrange_14 : decode cX10_arrange 14 = .ok (.iload 5, 2) := by decide +kernel
theorem dX10_arrange_16 : decode cX10_arrange 16 = .ok (.iload_n 2, 1) := by decide +kernel
theorem dX10_arrange_17 : decode cX10_arrange 17 = .ok (.if_icmp .ge 85, 3) := by decide +kernel
theorem dX10_arrange_20 : decode cX10_arrange 20 = .ok (.iload 5, 2) := by decide +kernel
theorem dX10_arrange_22 : decode cX10_arrange 22 = .ok (.aload_n 0, 1) := by decide +kernel
theorem dX10_arrange_23 : decode cX10_arrange 23 = .ok (.getfield 53, 3) := by decide +kernel
theorem dX10_arrange_26 : decode cX10_arrange 26 = .ok (.arraylength, 1) := by decide +kernel
theorem dX10_arrange_27 : decode cX10_arrange 27 = .ok (.if_icmp .ge 75, 3) := by decide +kernel
theorem dX10_arrange_30 : decode cX10_arrange 30 = .ok (.iload_n 2, 1) := by decide +kernel
theorem dX10_arrange_31 : decode cX10_arrange 31 = .ok (.iconst 1, 1) := by decide +kernel
theorem dX10_arrange_32 : decode cX10_arrange 32 = .ok (.isub, 1) := by decide +kernel
theorem dX10_arrange_33 : decode cX10_arrange 33 = .ok (.iload 5, 2) := by decide +kernel
theorem dX10_arrange_35 : decode cX10_arrange 35 = .ok (.isub, 1) := by decide +kernel
theorem dX10_arrange_36 : decode cX10_arrange 36 = .ok (.invokestatic 308, 3) := by decide +kernel
theorem dX10_arrange_39 : decode cX10_arrange 39 = .ok (.istore 6, 2) := by decide +kernel
theorem dX10_arrange_41 : decode cX10_arrange 41 = .ok (.iload 6, 2) := by decide +kernel
theorem dX10_arrange_43 : decode cX10_arrange 43 = .ok (.iconst 1, 1) := by decide +kernel
theorem dX10_arrange_44 : decode cX10_arrange 44 = .ok (.if_icmp .ge 7, 3) := by decide +kernel
theorem dX10_arrange_47 : decode cX10_arrange 47 = .ok (.iconst 0, 1) := by decide +kernel
theorem dX10_arrange_48 : decode cX10_arrange 48 = .ok (.goto 7, 3) := by decide +kernel
theorem dX10_arrange_51 : decode cX10_arrange 51 = .ok (.iload_n 3, 1) := by decide +kernel
theorem dX10_arrange_52 : decode cX10_arrange 52 = .ok (.iload 6, 2) := by decide +kernel
theorem dX10_arrange_54 : decode cX10_arrange 54 = .ok (.idiv, 1) := by decide +kernel
theorem dX10_arrange_55 : decode cX10_arrange 55 = .ok (.istore 7, 2) := by decide +kernel
theorem dX10_arrange_57 : decode cX10_arrange 57 = .ok (.iload_n 3, 1) := by decide +kernel
theorem dX10_arrange_58 : decode cX10_arrange 58 = .ok (.iload 7, 2) := by decide +kernel
theorem dX10_arrange_60 : decode cX10_arrange 60 = .ok (.iload 6, 2) := by decide +kernel
theorem dX10_arrange_62 : decode cX10_arrange 62 = .ok (.imul, 1) := by decide +kernel
theorem dX10_arrange_63 : decode cX10_arrange 63 = .ok (.isub, 1) := by decide +kernel
theorem dX10_arrange_64 : decode cX10_arrange 64 = .ok (.istore_n 3, 1) := by decide +kernel
theorem dX10_arrange_65 : decode cX10_arrange 65 = .ok (.aload_n 0, 1) := by decide +kernel
theorem dX10_arrange_66 : decode cX10_arrange 66 = .ok (.getfield 10, 3) := by decide +kernel
theorem dX10_arrange_69 : decode cX10_arrange 69 = .ok (.iload 4, 2) := by decide +kernel
theorem dX10_arrange_71 : decode cX10_arrange 71 = .ok (.iload 7, 2) := by decide +kernel
theorem dX10_arrange_73 : decode cX10_arrange 73 = .ok (.invokevirtual 410, 3) := by decide +kernel
theorem dX10_arrange_76 : decode cX10_arrange 76 = .ok (.istore 8, 2) := by decide +kernel
theorem dX10_arrange_78 : decode cX10_arrange 78 = .ok (.iload 4, 2) := by decide +kernel
theorem dX10_arrange_80 : decode cX10_arrange 80 = .ok (.iconst 1, 1) := by decide +kernel
theorem dX10_arrange_81 : decode cX10_arrange 81 = .ok (.iload 8, 2) := by decide +kernel
theorem dX10_arrange_83 : decode cX10_arrange 83 = .ok (.ishl, 1) := by decide +kernel
theorem dX10_arrange_84 : decode cX10_arrange 84 = .ok (.ior, 1) := by decide +kernel
theorem dX10_arrange_85 : decode cX10_arrange 85 = .ok (.istore 4, 2) := by decide +kernel
theorem dX10_arrange_87 : decode cX10_arrange 87 = .ok (.aload_n 0, 1) := by decide +kernel
theorem dX10_arrange_88 : decode cX10_arrange 88 = .ok (.getfield 53, 3) := by decide +kernel
theorem dX10_arrange_91 : decode cX10_arrange 91 = .ok (.iload 5, 2) := by decide +kernel
theorem dX10_arrange_93 : decode cX10_arrange 93 = .ok (.iload 8, 2) := by decide +kernel
theorem dX10_arrange_95 : decode cX10_arrange 95 = .ok (.iastore, 1) := by decide +kernel
theorem dX10_arrange_96 : decode cX10_arrange 96 = .ok (.iinc 5 1, 3) := by decide +kernel
theorem dX10_arrange_99 : decode cX10_arrange 99 = .ok (.goto (-85), 3) := by decide +kernel
theorem dX10_arrange_102 : decode cX10_arrange 102 = .ok (.return_, 1) := by decide +kernel
theorem dX10_debtsAsTried_0 : decode cX10_debtsAsTried 0 = .ok (.aload_n 0, 1) := by decide +kernel
theorem dX10_debtsAsTried_1 : decode cX10_debtsAsTried 1 = .ok (.getfield 16, 3) := by decide +kernel
theorem dX10_debtsAsTried_4 : decode cX10_debtsAsTried 4 = .ok (.aload_n 0, 1) := by decide +kernel
theorem dX10_debtsAsTried_5 : decode cX10_debtsAsTried 5 = .ok (.getfield 10, 3) := by decide +kernel
theorem dX10_debtsAsTried_8 : decode cX10_debtsAsTried 8 = .ok (.invokevirtual 74, 3) := by decide +kernel
theorem dX10_debtsAsTried_11 : decode cX10_debtsAsTried 11 = .ok (.iconst 0, 1) := by decide +kernel
theorem dX10_debtsAsTried_12 : decode cX10_debtsAsTried 12 = .ok (.istore_n 2, 1) := by decide +kernel
theorem dX10_debtsAsTried_13 : decode cX10_debtsAsTried 13 = .ok (.iload_n 2, 1) := by decide +kernel
theorem dX10_debtsAsTried_14 : decode cX10_debtsAsTried 14 = .ok (.iload_n 1, 1) := by decide +kernel
theorem dX10_debtsAsTried_15 : decode cX10_debtsAsTried 15 = .ok (.if_icmp .ge 38, 3) := by decide +kernel
theorem dX10_debtsAsTried_18 : decode cX10_debtsAsTried 18 = .ok (.iload_n 2, 1) := by decide +kernel
theorem dX10_debtsAsTried_19 : decode cX10_debtsAsTried 19 = .ok (.aload_n 0, 1) := by decide +kernel
theorem dX10_debtsAsTried_20 : decode cX10_debtsAsTried 20 = .ok (.getfield 53, 3) := by decide +kernel
theorem dX10_debtsAsTried_23 : decode cX10_debtsAsTried 23 = .ok (.arraylength, 1) := by decide +kernel
theorem dX10_debtsAsTried_24 : decode cX10_debtsAsTried 24 = .ok (.if_icmp .ge 29, 3) := by decide +kernel
theorem dX10_debtsAsTried_27 : decode cX10_debtsAsTried 27 = .ok (.aload_n 0, 1) := by decide +kernel
theorem dX10_debtsAsTried_28 : decode cX10_debtsAsTried 28 = .ok (.getfield 16, 3) := by decide +kernel
theorem dX10_debtsAsTried_31 : decode cX10_debtsAsTried 31 = .ok (.aload_n 0, 1) := by decide +kernel
theorem dX10_debtsAsTried_32 : decode cX10_debtsAsTried 32 = .ok (.getfield 53, 3) := by decide +kernel
theorem dX10_debtsAsTried_35 : decode cX10_debtsAsTried 35 = .ok (.iload_n 2, 1) := by decide +kernel
theorem dX10_debtsAsTried_36 : decode cX10_debtsAsTried 36 = .ok (.iaload, 1) := by decide +kernel
theorem dX10_debtsAsTried_37 : decode cX10_debtsAsTried 37 = .ok (.invokevirtual 223, 3) := by decide +kernel
theorem dX10_debtsAsTried_40 : decode cX10_debtsAsTried 40 = .ok (.aload_n 0, 1) := by decide +kernel
theorem dX10_debtsAsTried_41 : decode cX10_debtsAsTried 41 = .ok (.getfield 16, 3) := by decide +kernel
theorem dX10_debtsAsTried_44 : decode cX10_debtsAsTried 44 = .ok (.invokevirtual 341, 3) := by decide +kernel
theorem dX10_debtsAsTried_47 : decode cX10_debtsAsTried 47 = .ok (.iinc 2 1, 3) := by decide +kernel
theorem dX10_debtsAsTried_50 : decode cX10_debtsAsTried 50 = .ok (.goto (-37), 3) := by decide +kernel
theorem dX10_debtsAsTried_53 : decode cX10_debtsAsTried 53 = .ok (.aload_n 0, 1) := by decide +kernel
theorem dX10_debtsAsTried_54 : decode cX10_debtsAsTried 54 = .ok (.getfield 16, 3) := by decide +kernel
theorem dX10_debtsAsTried_57 : decode cX10_debtsAsTried 57 = .ok (.invokevirtual 352, 3) := by decide +kernel
theorem dX10_debtsAsTried_60 : decode cX10_debtsAsTried 60 = .ok (.ireturn, 1) := by decide +kernel
theorem dX10_up_0 : decode cX10_up 0 = .ok (.iload_n 1, 1) := by decide +kernel
theorem dX10_up_1 : decode cX10_up 1 = .ok (.iconst 1, 1) := by decide +kernel
theorem dX10_up_2 : decode cX10_up 2 = .ok (.if_icmp .ge 7, 3) := by decide +kernel
theorem dX10_up_5 : decode cX10_up 5 = .ok (.iconst 0, 1) := by decide +kernel
theorem dX10_up_6 : decode cX10_up 6 = .ok (.goto 10, 3) := by decide +kernel
theorem dX10_up_9 : decode cX10_up 9 = .ok (.iload_n 0, 1) := by decide +kernel
theorem dX10_up_10 : decode cX10_up 10 = .ok (.iload_n 1, 1) := by decide +kernel
theorem dX10_up_11 : decode cX10_up 11 = .ok (.iadd, 1) := by decide +kernel
theorem dX10_up_12 : decode cX10_up 12 = .ok (.iconst 1, 1) := by decide +kernel
theorem dX10_up_13 : decode cX10_up 13 = .ok (.isub, 1) := by decide +kernel
theorem dX10_up_14 : decode cX10_up 14 = .ok (.iload_n 1, 1) := by decide +kernel
theorem dX10_up_15 : decode cX10_up 15 = .ok (.idiv, 1) := by decide +kernel
theorem dX10_up_16 : decode cX10_up 16 = .ok (.ireturn, 1) := by decide +kernel
theorem dX10_inLowestTerms_0 : decode cX10_inLowestTerms 0 = .ok (.lload_n 0, 1) := by decide +kernel
theorem dX10_inLowestTerms_1 : decode cX10_inLowestTerms 1 = .ok (.lload_n 2, 1) := by decide +kernel
theorem dX10_inLowestTerms_2 : decode cX10_inLowestTerms 2 = .ok (.invokestatic 413, 3) := by decide +kernel
theorem dX10_inLowestTerms_5 : decode cX10_inLowestTerms 5 = .ok (.lstore 5, 2) := by decide +kernel
theorem dX10_inLowestTerms_7 : decode cX10_inLowestTerms 7 = .ok (.lload 5, 2) := by decide +kernel
theorem dX10_inLowestTerms_9 : decode cX10_inLowestTerms 9 = .ok (.lconst 1, 1) := by decide +kernel
theorem dX10_inLowestTerms_10 : decode cX10_inLowestTerms 10 = .ok (.lcmp, 1) := by decide +kernel
theorem dX10_inLowestTerms_11 : decode cX10_inLowestTerms 11 = .ok (.ifCond .ge 14, 3) := by decide +kernel
theorem dX10_inLowestTerms_14 : decode cX10_inLowestTerms 14 = .ok (.iload 4, 2) := by decide +kernel
theorem dX10_inLowestTerms_16 : decode cX10_inLowestTerms 16 = .ok (.ifCond .ne 7, 3) := by decide +kernel
theorem dX10_inLowestTerms_19 : decode cX10_inLowestTerms 19 = .ok (.lconst 0, 1) := by decide +kernel
theorem dX10_inLowestTerms_20 : decode cX10_inLowestTerms 20 = .ok (.goto 4, 3) := by decide +kernel
theorem dX10_inLowestTerms_23 : decode cX10_inLowestTerms 23 = .ok (.lconst 1, 1) := by decide +kernel
theorem dX10_inLowestTerms_24 : decode cX10_inLowestTerms 24 = .ok (.lreturn, 1) := by decide +kernel
theorem dX10_inLowestTerms_25 : decode cX10_inLowestTerms 25 = .ok (.iload 4, 2) := by decide +kernel
theorem dX10_inLowestTerms_27 : decode cX10_inLowestTerms 27 = .ok (.ifCond .ne 7, 3) := by decide +kernel
theorem dX10_inLowestTerms_30 : decode cX10_inLowestTerms 30 = .ok (.lload_n 0, 1) := by decide +kernel
theorem dX10_inLowestTerms_31 : decode cX10_inLowestTerms 31 = .ok (.goto 4, 3) := by decide +kernel
theorem dX10_inLowestTerms_34 : decode cX10_inLowestTerms 34 = .ok (.lload_n 2, 1) := by decide +kernel
theorem dX10_inLowestTerms_35 : decode cX10_inLowestTerms 35 = .ok (.lload 5, 2) := by decide +kernel
theorem dX10_inLowestTerms_37 : decode cX10_inLowestTerms 37 = .ok (.ldiv, 1) := by decide +kernel
theorem dX10_inLowestTerms_38 : decode cX10_inLowestTerms 38 = .ok (.lreturn, 1) := by decide +kernel
theorem dX10_commonDivisor_0 : decode cX10_commonDivisor 0 = .ok (.lload_n 0, 1) := by decide +kernel
theorem dX10_commonDivisor_1 : decode cX10_commonDivisor 1 = .ok (.lstore 4, 2) := by decide +kernel
theorem dX10_commonDivisor_3 : decode cX10_commonDivisor 3 = .ok (.lload_n 2, 1) := by decide +kernel
theorem dX10_commonDivisor_4 : decode cX10_commonDivisor 4 = .ok (.lstore 6, 2) := by decide +kernel
theorem dX10_commonDivisor_6 : decode cX10_commonDivisor 6 = .ok (.iconst 0, 1) := by decide +kernel
theorem dX10_commonDivisor_7 : decode cX10_commonDivisor 7 = .ok (.istore 8, 2) := by decide +kernel
theorem dX10_commonDivisor_9 : decode cX10_commonDivisor 9 = .ok (.iload 8, 2) := by decide +kernel
theorem dX10_commonDivisor_11 : decode cX10_commonDivisor 11 = .ok (.sipush 1000, 3) := by decide +kernel
theorem dX10_commonDivisor_14 : decode cX10_commonDivisor 14 = .ok (.if_icmp .ge 31, 3) := by decide +kernel
theorem dX10_commonDivisor_17 : decode cX10_commonDivisor 17 = .ok (.lload 6, 2) := by decide +kernel
theorem dX10_commonDivisor_19 : decode cX10_commonDivisor 19 = .ok (.lconst 0, 1) := by decide +kernel
theorem dX10_commonDivisor_20 : decode cX10_commonDivisor 20 = .ok (.lcmp, 1) := by decide +kernel
theorem dX10_commonDivisor_21 : decode cX10_commonDivisor 21 = .ok (.ifCond .eq 24, 3) := by decide +kernel
theorem dX10_commonDivisor_24 : decode cX10_commonDivisor 24 = .ok (.lload 4, 2) := by decide +kernel
theorem dX10_commonDivisor_26 : decode cX10_commonDivisor 26 = .ok (.lload 6, 2) := by decide +kernel
theorem dX10_commonDivisor_28 : decode cX10_commonDivisor 28 = .ok (.lrem, 1) := by decide +kernel
theorem dX10_commonDivisor_29 : decode cX10_commonDivisor 29 = .ok (.lstore 9, 2) := by decide +kernel
theorem dX10_commonDivisor_31 : decode cX10_commonDivisor 31 = .ok (.lload 6, 2) := by decide +kernel
theorem dX10_commonDivisor_33 : decode cX10_commonDivisor 33 = .ok (.lstore 4, 2) := by decide +kernel
theorem dX10_commonDivisor_35 : decode cX10_commonDivisor 35 = .ok (.lload 9, 2) := by decide +kernel
theorem dX10_commonDivisor_37 : decode cX10_commonDivisor 37 = .ok (.lstore 6, 2) := by decide +kernel
theorem dX10_commonDivisor_39 : decode cX10_commonDivisor 39 = .ok (.iinc 8 1, 3) := by decide +kernel
theorem dX10_commonDivisor_42 : decode cX10_commonDivisor 42 = .ok (.goto (-33), 3) := by decide +kernel
theorem dX10_commonDivisor_45 : decode cX10_commonDivisor 45 = .ok (.lload 4, 2) := by decide +kernel
theorem dX10_commonDivisor_47 : decode cX10_commonDivisor 47 = .ok (.lreturn, 1) := by decide +kernel
theorem dX10_nextSeed_0 : decode cX10_nextSeed 0 = .ok (.iload_n 0, 1) := by decide +kernel
theorem dX10_nextSeed_1 : decode cX10_nextSeed 1 = .ok (.ldc_w 417, 3) := by decide +kernel
theorem dX10_nextSeed_4 : decode cX10_nextSeed 4 = .ok (.imul, 1) := by decide +kernel
theorem dX10_nextSeed_5 : decode cX10_nextSeed 5 = .ok (.sipush 12345, 3) := by decide +kernel
theorem dX10_nextSeed_8 : decode cX10_nextSeed 8 = .ok (.iadd, 1) := by decide +kernel
theorem dX10_nextSeed_9 : decode cX10_nextSeed 9 = .ok (.ireturn, 1) := by decide +kernel
theorem dX10_drawBelow_0 : decode cX10_drawBelow 0 = .ok (.iload_n 0, 1) := by decide +kernel
theorem dX10_drawBelow_1 : decode cX10_drawBelow 1 = .ok (.iconst 1, 1) := by decide +kernel
theorem dX10_drawBelow_2 : decode cX10_drawBelow 2 = .ok (.if_icmp .ge 7, 3) := by decide +kernel
theorem dX10_drawBelow_5 : decode cX10_drawBelow 5 = .ok (.iconst 0, 1) := by decide +kernel
theorem dX10_drawBelow_6 : decode cX10_drawBelow 6 = .ok (.goto 13, 3) := by decide +kernel
theorem dX10_drawBelow_9 : decode cX10_drawBelow 9 = .ok (.iload_n 1, 1) := by decide +kernel
theorem dX10_drawBelow_10 : decode cX10_drawBelow 10 = .ok (.ldc 219, 2) := by decide +kernel
theorem dX10_drawBelow_12 : decode cX10_drawBelow 12 = .ok (.iand, 1) := by decide +kernel
theorem dX10_drawBelow_13 : decode cX10_drawBelow 13 = .ok (.ldc_w 418, 3) := by decide +kernel
theorem dX10_drawBelow_16 : decode cX10_drawBelow 16 = .ok (.idiv, 1) := by decide +kernel
theorem dX10_drawBelow_17 : decode cX10_drawBelow 17 = .ok (.iload_n 0, 1) := by decide +kernel
theorem dX10_drawBelow_18 : decode cX10_drawBelow 18 = .ok (.irem, 1) := by decide +kernel
theorem dX10_drawBelow_19 : decode cX10_drawBelow 19 = .ok (.ireturn, 1) := by decide +kernel
theorem dX11_init_0 : decode cX11_init 0 = .ok (.aload_n 0, 1) := by decide +kernel
theorem dX11_init_1 : decode cX11_init 1 = .ok (.invokespecial 1, 3) := by decide +kernel
theorem dX11_init_4 : decode cX11_init 4 = .ok (.aload_n 0, 1) := by decide +kernel
theorem dX11_init_5 : decode cX11_init 5 = .ok (.iconst 5, 1) := by decide +kernel
theorem dX11_init_6 : decode cX11_init 6 = .ok (.newarray .int, 2) := by decide +kernel
theorem dX11_init_8 : decode cX11_init 8 = .ok (.putfield 7, 3) := by decide +kernel
theorem dX11_init_11 : decode cX11_init 11 = .ok (.aload_n 0, 1) := by decide +kernel
theorem dX11_init_12 : decode cX11_init 12 = .ok (.iconst 5, 1) := by decide +kernel
theorem dX11_init_13 : decode cX11_init 13 = .ok (.newarray .int, 2) := by decide +kernel
theorem dX11_init_15 : decode cX11_init 15 = .ok (.putfield 13, 3) := by decide +kernel
theorem dX11_init_18 : decode cX11_init 18 = .ok (.aload_n 0, 1) := by decide +kernel
theorem dX11_init_19 : decode cX11_init 19 = .ok (.iconst 5, 1) := by decide +kernel
theorem dX11_init_20 : decode cX11_init 20 = .ok (.newarray .int, 2) := by decide +kernel
theorem dX11_init_22 : decode cX11_init 22 = .ok (.putfield 16, 3) := by decide +kernel
theorem dX11_init_25 : decode cX11_init 25 = .ok (.aload_n 0, 1) := by decide +kernel
theorem dX11_init_26 : decode cX11_init 26 = .ok (.iconst 5, 1) := by decide +kernel
theorem dX11_init_27 : decode cX11_init 27 = .ok (.newarray .int, 2) := by decide +kernel
theorem dX11_init_29 : decode cX11_init 29 = .ok (.putfield 19, 3) := by decide +kernel
theorem dX11_init_32 : decode cX11_init 32 = .ok (.aload_n 0, 1) := by decide +kernel
theorem dX11_init_33 : decode cX11_init 33 = .ok (.iconst 5, 1) := by decide +kernel
theorem dX11_init_34 : decode cX11_init 34 = .ok (.putfield 22, 3) := by decide +kernel
theorem dX11_init_37 : decode cX11_init 37 = .ok (.aload_n 0, 1) := by decide +kernel
theorem dX11_init_38 : decode cX11_init 38 = .ok (.bipush 6, 2) := by decide +kernel
theorem dX11_init_40 : decode cX11_init 40 = .ok (.newarray .int, 2) := by decide +kernel
theorem dX11_init_42 : decode cX11_init 42 = .ok (.putfield 26, 3) := by decide +kernel
theorem dX11_init_45 : decode cX11_init 45 = .ok (.aload_n 0, 1) := by decide +kernel
theorem dX11_init_46 : decode cX11_init 46 = .ok (.bipush 6, 2) := by decide +kernel
theorem dX11_init_48 : decode cX11_init 48 = .ok (.newarray .int, 2) := by decide +kernel
theorem dX11_init_50 : decode cX11_init 50 = .ok (.putfield 29, 3) := by decide +kernel
theorem dX11_init_53 : decode cX11_init 53 = .ok (.aload_n 0, 1) := by decide +kernel
theorem dX11_init_54 : decode cX11_init 54 = .ok (.bipush 6, 2) := by decide +kernel
theorem dX11_init_56 : decode cX11_init 56 = .ok (.newarray .int, 2) := by decide +kernel
theorem dX11_init_58 : decode cX11_init 58 = .ok (.putfield 32, 3) := by decide +kernel
theorem dX11_init_61 : decode cX11_init 61 = .ok (.aload_n 0, 1) := by decide +kernel
theorem dX11_init_62 : decode cX11_init 62 = .ok (.bipush 6, 2) := by decide +kernel
theorem dX11_init_64 : decode cX11_init 64 = .ok (.newarray .int, 2) := by decide +kernel
theorem dX11_init_66 : decode cX11_init 66 = .ok (.putfield 35, 3) := by decide +kernel
theorem dX11_init_69 : decode cX11_init 69 = .ok (.aload_n 0, 1) := by decide +kernel
theorem dX11_init_70 : decode cX11_init 70 = .ok (.bipush 7, 2) := by decide +kernel
theorem dX11_init_72 : decode cX11_init 72 = .ok (.newarray .int, 2) := by decide +kernel
theorem dX11_init_74 : decode cX11_init 74 = .ok (.putfield 38, 3) := by decide +kernel
theorem dX11_init_77 : decode cX11_init 77 = .ok (.aload_n 0, 1) := by decide +kernel
theorem dX11_init_78 : decode cX11_init 78 = .ok (.iconst 5, 1) := by decide +kernel
theorem dX11_init_79 : decode cX11_init 79 = .ok (.newarray .int, 2) := by decide +kernel
theorem dX11_init_81 : decode cX11_init 81 = .ok (.putfield 41, 3) := by decide +kernel
theorem dX11_init_84 : decode cX11_init 84 = .ok (.aload_n 0, 1) := by decide +kernel
theorem dX11_init_85 : decode cX11_init 85 = .ok (.iconst 5, 1) := by decide +kernel
theorem dX11_init_86 : decode cX11_init 86 = .ok (.newarray .int, 2) := by decide +kernel
theorem dX11_init_88 : decode cX11_init 88 = .ok (.putfield 44, 3) := by decide +kernel
theorem dX11_init_91 : decode cX11_init 91 = .ok (.aload_n 0, 1) := by decide +kernel
theorem dX11_init_92 : decode cX11_init 92 = .ok (.iconst 5, 1) := by decide +kernel
theorem dX11_init_93 : decode cX11_init 93 = .ok (.newarray .int, 2) := by decide +kernel
theorem dX11_init_95 : decode cX11_init 95 = .ok (.putfield 47, 3) := by decide +kernel
theorem dX11_init_98 : decode cX11_init 98 = .ok (.aload_n 0, 1) := by decide +kernel
theorem dX11_init_99 : decode cX11_init 99 = .ok (.bipush 96, 2) := by decide +kernel
theorem dX11_init_101 : decode cX11_init 101 = .ok (.newarray .int, 2) := by decide +kernel
theorem dX11_init_103 : decode cX11_init 103 = .ok (.putfield 50, 3) := by decide +kernel
theorem dX11_init_106 : decode cX11_init 106 = .ok (.aload_n 0, 1) := by decide +kernel
theorem dX11_init_107 : decode cX11_init 107 = .ok (.bipush 49, 2) := by decide +kernel
theorem dX11_init_109 : decode cX11_init 109 = .ok (.newarray .int, 2) := by decide +kernel
theorem dX11_init_111 : decode cX11_init 111 = .ok (.putfield 53, 3) := by decide +kernel
theorem dX11_init_114 : decode cX11_init 114 = .ok (.aload_n 0, 1) := by decide +kernel
theorem dX11_init_115 : decode cX11_init 115 = .ok (.bipush 49, 2) := by decide +kernel
theorem dX11_init_117 : decode cX11_init 117 = .ok (.newarray .int, 2) := by decide +kernel
theorem dX11_init_119 : decode cX11_init 119 = .ok (.putfield 56, 3) := by decide +kernel
theorem dX11_init_122 : decode cX11_init 122 = .ok (.aload_n 0, 1) := by decide +kernel
theorem dX11_init_123 : decode cX11_init 123 = .ok (.sipush 147, 3) := by decide +kernel
theorem dX11_init_126 : decode cX11_init 126 = .ok (.newarray .int, 2) := by decide +kernel
theorem dX11_init_128 : decode cX11_init 128 = .ok (.putfield 59, 3) := by decide +kernel
theorem dX11_init_131 : decode cX11_init 131 = .ok (.aload_n 0, 1) := by decide +kernel
theorem dX11_init_132 : decode cX11_init 132 = .ok (.bipush 48, 2) := by decide +kernel
theorem dX11_init_134 : decode cX11_init 134 = .ok (.newarray .int, 2) := by decide +kernel
theorem dX11_init_136 : decode cX11_init 136 = .ok (.putfield 62, 3) := by decide +kernel
theorem dX11_init_139 : decode cX11_init 139 = .ok (.aload_n 0, 1) := by decide +kernel
theorem dX11_init_140 : decode cX11_init 140 = .ok (.bipush 48, 2) := by decide +kernel
theorem dX11_init_142 : decode cX11_init 142 = .ok (.newarray .int, 2) := by decide +kernel
theorem dX11_init_144 : decode cX11_init 144 = .ok (.putfield 65, 3) := by decide +kernel
theorem dX11_init_147 : decode cX11_init 147 = .ok (.aload_n 0, 1) := by decide +kernel
theorem dX11_init_148 : decode cX11_init 148 = .ok (.sipush 384, 3) := by decide +kernel
theorem dX11_init_151 : decode cX11_init 151 = .ok (.newarray .int, 2) := by decide +kernel
theorem dX11_init_153 : decode cX11_init 153 = .ok (.putfield 68, 3) := by decide +kernel
theorem dX11_init_156 : decode cX11_init 156 = .ok (.aload_n 0, 1) := by decide +kernel
theorem dX11_init_157 : decode cX11_init 157 = .ok (.bipush 48, 2) := by decide +kernel
theorem dX11_init_159 : decode cX11_init 159 = .ok (.newarray .int, 2) := by decide +kernel
theorem dX11_init_161 : decode cX11_init 161 = .ok (.putfield 71, 3) := by decide +kernel
theorem dX11_init_164 : decode cX11_init 164 = .ok (.aload_n 0, 1) := by decide +kernel
theorem dX11_init_165 : decode cX11_init 165 = .ok (.bipush 12, 2) := by decide +kernel
theorem dX11_init_167 : decode cX11_init 167 = .ok (.newarray .int, 2) := by decide +kernel
theorem dX11_init_169 : decode cX11_init 169 = .ok (.putfield 74, 3) := by decide +kernel
theorem dX11_init_172 : decode cX11_init 172 = .ok (.aload_n 0, 1) := by decide +kernel
theorem dX11_init_173 : decode cX11_init 173 = .ok (.bipush 6, 2) := by decide +kernel
theorem dX11_init_175 : decode cX11_init 175 = .ok (.newarray .int, 2) := by decide +kernel
theorem dX11_init_177 : decode cX11_init 177 = .ok (.putfield 77, 3) := by decide +kernel
theorem dX11_init_180 : decode cX11_init 180 = .ok (.aload_n 0, 1) := by decide +kernel
theorem dX11_init_181 : decode cX11_init 181 = .ok (.bipush 6, 2) := by decide +kernel
theorem dX11_init_183 : decode cX11_init 183 = .ok (.newarray .int, 2) := by decide +kernel
theorem dX11_init_185 : decode cX11_init 185 = .ok (.putfield 80, 3) := by decide +kernel
theorem dX11_init_188 : decode cX11_init 188 = .ok (.aload_n 0, 1) := by decide +kernel
theorem dX11_init_189 : decode cX11_init 189 = .ok (.iconst 0, 1) := by decide +kernel
theorem dX11_init_190 : decode cX11_init 190 = .ok (.putfield 83, 3) := by decide +kernel
theorem dX11_init_193 : decode cX11_init 193 = .ok (.return_, 1) := by decide +kernel
theorem dX11_in_0 : decode cX11_in 0 = .ok (.lload_n 0, 1) := by decide +kernel
theorem dX11_in_1 : decode cX11_in 1 = .ok (.lload_n 2, 1) := by decide +kernel
theorem dX11_in_2 : decode cX11_in 2 = .ok (.lcmp, 1) := by decide +kernel
theorem dX11_in_3 : decode cX11_in 3 = .ok (.ifCond .lt 14, 3) := by decide +kernel
theorem dX11_in_6 : decode cX11_in 6 = .ok (.lload_n 0, 1) := by decide +kernel
theorem dX11_in_7 : decode cX11_in 7 = .ok (.lload 4, 2) := by decide +kernel
theorem dX11_in_9 : decode cX11_in 9 = .ok (.lcmp, 1) := by decide +kernel
theorem dX11_in_10 : decode cX11_in 10 = .ok (.ifCond .gt 7, 3) := by decide +kernel
theorem dX11_in_13 : decode cX11_in 13 = .ok (.iconst 1, 1) := by decide +kernel
theorem dX11_in_14 : decode cX11_in 14 = .ok (.goto 4, 3) := by decide +kernel
theorem dX11_in_17 : decode cX11_in 17 = .ok (.iconst 0, 1) := by decide +kernel
theorem dX11_in_18 : decode cX11_in 18 = .ok (.ireturn, 1) := by decide +kernel
theorem dX11_refuse_0 : decode cX11_refuse 0 = .ok (.aload_n 0, 1) := by decide +kernel
theorem dX11_refuse_1 : decode cX11_refuse 1 = .ok (.getfield 38, 3) := by decide +kernel
theorem dX11_refuse_4 : decode cX11_refuse 4 = .ok (.iload_n 1, 1) := by decide +kernel
theorem dX11_refuse_5 : decode cX11_refuse 5 = .ok (.ineg, 1) := by decide +kernel
theorem dX11_refuse_6 : decode cX11_refuse 6 = .ok (.dup2, 1) := by decide +kernel
theorem dX11_refuse_7 : decode cX11_refuse 7 = .ok (.iaload, 1) := by decide +kernel
theorem dX11_refuse_8 : decode cX11_refuse 8 = .ok (.iconst 1, 1) := by decide +kernel
theorem dX11_refuse_9 : decode cX11_refuse 9 = .ok (.iadd, 1) := by decide +kernel
theorem dX11_refuse_10 : decode cX11_refuse 10 = .ok (.iastore, 1) := by decide +kernel
theorem dX11_refuse_11 : decode cX11_refuse 11 = .ok (.iload_n 1, 1) := by decide +kernel
theorem dX11_refuse_12 : decode cX11_refuse 12 = .ok (.ireturn, 1) := by decide +kernel
theorem dX11_isFamily_0 : decode cX11_isFamily 0 = .ok (.iload_n 1, 1) := by decide +kernel
theorem dX11_isFamily_1 : decode cX11_isFamily 1 = .ok (.i2l, 1) := by decide +kernel
theorem dX11_isFamily_2 : decode cX11_isFamily 2 = .ok (.lconst 0, 1) := by decide +kernel
theorem dX11_isFamily_3 : decode cX11_isFamily 3 = .ok (.aload_n 0, 1) := by decide +kernel
theorem dX11_isFamily_4 : decode cX11_isFamily 4 = .ok (.getfield 86, 3) := by decide +kernel
theorem dX11_isFamily_7 : decode cX11_isFamily 7 = .ok (.iconst 1, 1) := by decide +kernel
theorem dX11_isFamily_8 : decode cX11_isFamily 8 = .ok (.isub, 1) := by decide +kernel
theorem dX11_isFamily_9 : decode cX11_isFamily 9 = .ok (.i2l, 1) := by decide +kernel
theorem dX11_isFamily_10 : decode cX11_isFamily 10 = .ok (.invokestatic 89, 3) := by decide +kernel
theorem dX11_isFamily_13 : decode cX11_isFamily 13 = .ok (.ireturn, 1) := by decide +kernel
theorem dX11_isWork_0 : decode cX11_isWork 0 = .ok (.iload_n 1, 1) := by decide +kernel
theorem dX11_isWork_1 : decode cX11_isWork 1 = .ok (.i2l, 1) := by decide +kernel
theorem dX11_isWork_2 : decode cX11_isWork 2 = .ok (.lconst 0, 1) := by decide +kernel
theorem dX11_isWork_3 : decode cX11_isWork 3 = .ok (.aload_n 0, 1) := by decide +kernel
theorem dX11_isWork_4 : decode cX11_isWork 4 = .ok (.getfield 93, 3) := by decide +kernel
theorem dX11_isWork_7 : decode cX11_isWork 7 = .ok (.iconst 1, 1) := by decide +kernel
theorem dX11_isWork_8 : decode cX11_isWork 8 = .ok (.isub, 1) := by decide +kernel
theorem dX11_isWork_9 : decode cX11_isWork 9 = .ok (.i2l, 1) := by decide +kernel
theorem dX11_isWork_10 : decode cX11_isWork 10 = .ok (.invokestatic 89, 3) := by decide +kernel
theorem dX11_isWork_13 : decode cX11_isWork 13 = .ok (.ireturn, 1) := by decide +kernel
theorem dX11_wrongNumber_0 : decode cX11_wrongNumber 0 = .ok (.iload_n 0, 1) := by decide +kernel
theorem dX11_wrongNumber_1 : decode cX11_wrongNumber 1 = .ok (.iload_n 1, 1) := by decide +kernel
theorem dX11_wrongNumber_2 : decode cX11_wrongNumber 2 = .ok (.if_icmp .ge 8, 3) := by decide +kernel
theorem dX11_wrongNumber_5 : decode cX11_wrongNumber 5 = .ok (.bipush (-4), 2) := by decide +kernel
theorem dX11_wrongNumber_7 : decode cX11_wrongNumber 7 = .ok (.goto 14, 3) := by decide +kernel
theorem dX11_wrongNumber_10 : decode cX11_wrongNumber 10 = .ok (.iload_n 0, 1) := by decide +kernel
theorem dX11_wrongNumber_11 : decode cX11_wrongNumber 11 = .ok (.iload_n 2, 1) := by decide +kernel
theorem dX11_wrongNumber_12 : decode cX11_wrongNumber 12 = .ok (.if_icmp .le 8, 3) := by decide +kernel
theorem dX11_wrongNumber_15 : decode cX11_wrongNumber 15 = .ok (.bipush (-6), 2) := by decide +kernel
theorem dX11_wrongNumber_17 : decode cX11_wrongNumber 17 = .ok (.goto 4, 3) := by decide +kernel
theorem dX11_wrongNumber_20 : decode cX11_wrongNumber 20 = .ok (.iconst 0, 1) := by decide +kernel
theorem dX11_wrongNumber_21 : decode cX11_wrongNumber 21 = .ok (.ireturn, 1) := by decide +kernel
theorem dX11_wrongBit_0 : decode cX11_wrongBit 0 = .ok (.iload_n 0, 1) := by decide +kernel
theorem dX11_wrongBit_1 : decode cX11_wrongBit 1 = .ok (.ifCond .ne 19, 3) := by decide +kernel
theorem dX11_wrongBit_4 : decode cX11_wrongBit 4 = .ok (.iload_n 1, 1) := by decide +kernel
theorem dX11_wrongBit_5 : decode cX11_wrongBit 5 = .ok (.i2l, 1) := by decide +kernel
theorem dX11_wrongBit_6 : decode cX11_wrongBit 6 = .ok (.lconst 0, 1) := by decide +kernel
theorem dX11_wrongBit_7 : decode cX11_wrongBit 7 = .ok (.iload_n 2, 1) := by decide +kernel
theorem dX11_wrongBit_8 : decode cX11_wrongBit 8 = .ok (.i2l, 1) := by decide +kernel
theorem dX11_wrongBit_9 : decode cX11_wrongBit 9 = .ok (.invokestatic 89, 3) := by decide +kernel
theorem dX11_wrongBit_12 : decode cX11_wrongBit 12 = .ok (.ifCond .ne 8, 3) := by decide +kernel
theorem dX11_wrongBit_15 : decode cX11_wrongBit 15 = .ok (.bipush (-2), 2) := by decide +kernel
theorem dX11_wrongBit_17 : decode cX11_wrongBit 17 = .ok (.goto 4, 3) := by decide +kernel
theorem dX11_wrongBit_20 : decode cX11_wrongBit 20 = .ok (.iload_n 0, 1) := by decide +kernel
theorem dX11_wrongBit_21 : decode cX11_wrongBit 21 = .ok (.ireturn, 1) := by decide +kernel
theorem dX11_hasBit_0 : decode cX11_hasBit 0 = .ok (.iload_n 0, 1) := by decide +kernel
theorem dX11_hasBit_1 : decode cX11_hasBit 1 = .ok (.iload_n 1, 1) := by decide +kernel
theorem dX11_hasBit_2 : decode cX11_hasBit 2 = .ok (.ishr, 1) := by decide +kernel
theorem dX11_hasBit_3 : decode cX11_hasBit 3 = .ok (.iconst 1, 1) := by decide +kernel
theorem dX11_hasBit_4 : decode cX11_hasBit 4 = .ok (.iand, 1) := by decide +kernel
theorem dX11_hasBit_5 : decode cX11_hasBit 5 = .ok (.iconst 1, 1) := by decide +kernel
theorem dX11_hasBit_6 : decode cX11_hasBit 6 = .ok (.if_icmp .ne 7, 3) := by decide +kernel
theorem dX11_hasBit_9 : decode cX11_hasBit 9 = .ok (.iconst 1, 1) := by decide +kernel
theorem dX11_hasBit_10 : decode cX11_hasBit 10 = .ok (.goto 4, 3) := by decide +kernel
theorem dX11_hasBit_13 : decode cX11_hasBit 13 = .ok (.iconst 0, 1) := by decide +kernel
theorem dX11_hasBit_14 : decode cX11_hasBit 14 = .ok (.ireturn, 1) := by decide +kernel
theorem dX11_held_0 : decode cX11_held 0 = .ok (.iload_n 0, 1) := by decide +kernel
theorem dX11_held_1 : decode cX11_held 1 = .ok (.iload_n 1, 1) := by decide +kernel
theorem dX11_held_2 : decode cX11_held 2 = .ok (.if_icmp .ge 7, 3) := by decide +kernel
theorem dX11_held_5 : decode cX11_held 5 = .ok (.iload_n 1, 1) := by decide +kernel
theorem dX11_held_6 : decode cX11_held 6 = .ok (.goto 13, 3) := by decide +kernel
theorem dX11_held_9 : decode cX11_held 9 = .ok (.iload_n 0, 1) := by decide +kernel
theorem dX11_held_10 : decode cX11_held 10 = .ok (.iload_n 2, 1) := by decide +kernel
theorem dX11_held_11 : decode cX11_held 11 = .ok (.if_icmp .le 7, 3) := by decide +kernel
theorem dX11_held_14 : decode cX11_held 14 = .ok (.iload_n 2, 1) := by decide +kernel
theorem dX11_held_15 : decode cX11_held 15 = .ok (.goto 4, 3) := by decide +kernel
theorem dX11_held_18 : decode cX11_held 18 = .ok (.iload_n 0, 1) := by decide +kernel
theorem dX11_held_19 : decode cX11_held 19 = .ok (.ireturn, 1) := by decide +kernel
theorem dX11_allHeads_0 : decode cX11_allHeads 0 = .ok (.iconst 0, 1) := by decide +kernel
theorem dX11_allHeads_1 : decode cX11_allHeads 1 = .ok (.istore_n 1, 1) := by decide +kernel
theorem dX11_allHeads_2 : decode cX11_allHeads 2 = .ok (.iconst 0, 1) := by decide +kernel
theorem dX11_allHeads_3 : decode cX11_allHeads 3 = .ok (.istore_n 2, 1) := by decide +kernel
theorem dX11_allHeads_4 : decode cX11_allHeads 4 = .ok (.iload_n 2, 1) := by decide +kernel
theorem dX11_allHeads_5 : decode cX11_allHeads 5 = .ok (.aload_n 0, 1) := by decide +kernel
theorem dX11_allHeads_6 : decode cX11_allHeads 6 = .ok (.getfield 86, 3) := by decide +kernel
theorem dX11_allHeads_9 : decode cX11_allHeads 9 = .ok (.if_icmp .ge 18, 3) := by decide +kernel
theorem dX11_allHeads_12 : decode cX11_allHeads 12 = .ok (.iload_n 1, 1) := by decide +kernel
theorem dX11_allHeads_13 : decode cX11_allHeads 13 = .ok (.aload_n 0, 1) := by decide +kernel
theorem dX11_allHeads_14 : decode cX11_allHeads 14 = .ok (.getfield 7, 3) := by decide +kernel
theorem dX11_allHeads_17 : decode cX11_allHeads 17 = .ok (.iload_n 2, 1) := by decide +kernel
theorem dX11_allHeads_18 : decode cX11_allHeads 18 = .ok (.iaload, 1) := by decide +kernel
theorem dX11_allHeads_19 : decode cX11_allHeads 19 = .ok (.iadd, 1) := by decide +kernel
theorem dX11_allHeads_20 : decode cX11_allHeads 20 = .ok (.istore_n 1, 1) := by decide +kernel
theorem dX11_allHeads_21 : decode cX11_allHeads 21 = .ok (.iinc 2 1, 3) := by decide +kernel
theorem dX11_allHeads_24 : decode cX11_allHeads 24 = .ok (.goto (-20), 3) := by decide +kernel
theorem dX11_allHeads_27 : decode cX11_allHeads 27 = .ok (.iload_n 1, 1) := by decide +kernel
theorem dX11_allHeads_28 : decode cX11_allHeads 28 = .ok (.ireturn, 1) := by decide +kernel
theorem dX11_allDebts_0 : decode cX11_allDebts 0 = .ok (.iconst 0, 1) := by decide +kernel
theorem dX11_allDebts_1 : decode cX11_allDebts 1 = .ok (.istore_n 1, 1) := by decide +kernel
theorem dX11_allDebts_2 : decode cX11_allDebts 2 = .ok (.iconst 0, 1) := by decide +kernel
theorem dX11_allDebts_3 : decode cX11_allDebts 3 = .ok (.istore_n 2, 1) := by decide +kernel
theorem dX11_allDebts_4 : decode cX11_allDebts 4 = .ok (.iload_n 2, 1) := by decide +kernel
theorem dX11_allDebts_5 : decode cX11_allDebts 5 = .ok (.aload_n 0, 1) := by decide +kernel
theorem dX11_allDebts_6 : decode cX11_allDebts 6 = .ok (.getfield 86, 3) := by decide +kernel
theorem dX11_allDebts_9 : decode cX11_allDebts 9 = .ok (.if_icmp .ge 18, 3) := by decide +kernel
theorem dX11_allDebts_12 : decode cX11_allDebts 12 = .ok (.iload_n 1, 1) := by decide +kernel
theorem dX11_allDebts_13 : decode cX11_allDebts 13 = .ok (.aload_n 0, 1) := by decide +kernel
theorem dX11_allDebts_14 : decode cX11_allDebts 14 = .ok (.getfield 13, 3) := by decide +kernel
theorem dX11_allDebts_17 : decode cX11_allDebts 17 = .ok (.iload_n 2, 1) := by decide +kernel
theorem dX11_allDebts_18 : decode cX11_allDebts 18 = .ok (.iaload, 1) := by decide +kernel
theorem dX11_allDebts_19 : decode cX11_allDebts 19 = .ok (.iadd, 1) := by decide +kernel
theorem dX11_allDebts_20 : decode cX11_allDebts 20 = .ok (.istore_n 1, 1) := by decide +kernel
theorem dX11_allDebts_21 : decode cX11_allDebts 21 = .ok (.iinc 2 1, 3) := by decide +kernel
theorem dX11_allDebts_24 : decode cX11_allDebts 24 = .ok (.goto (-20), 3) := by decide +kernel
theorem dX11_allDebts_27 : decode cX11_allDebts 27 = .ok (.iload_n 1, 1) := by decide +kernel
theorem dX11_allDebts_28 : decode cX11_allDebts 28 = .ok (.ireturn, 1) := by decide +kernel
theorem dX11_headOwes_0 : decode cX11_headOwes 0 = .ok (.aload_n 0, 1) := by decide +kernel
theorem dX11_headOwes_1 : decode cX11_headOwes 1 = .ok (.getfield 13, 3) := by decide +kernel
theorem dX11_headOwes_4 : decode cX11_headOwes 4 = .ok (.iload_n 1, 1) := by decide +kernel
theorem dX11_headOwes_5 : decode cX11_headOwes 5 = .ok (.iaload, 1) := by decide +kernel
theorem dX11_headOwes_6 : decode cX11_headOwes 6 = .ok (.aload_n 0, 1) := by decide +kernel
theorem dX11_headOwes_7 : decode cX11_headOwes 7 = .ok (.getfield 7, 3) := by decide +kernel
theorem dX11_headOwes_10 : decode cX11_headOwes 10 = .ok (.iload_n 1, 1) := by decide +kernel
theorem dX11_headOwes_11 : decode cX11_headOwes 11 = .ok (.iaload, 1) := by decide +kernel
theorem dX11_headOwes_12 : decode cX11_headOwes 12 = .ok (.iadd, 1) := by decide +kernel
theorem dX11_headOwes_13 : decode cX11_headOwes 13 = .ok (.iconst 1, 1) := by decide +kernel
theorem dX11_headOwes_14 : decode cX11_headOwes 14 = .ok (.isub, 1) := by decide +kernel
theorem dX11_headOwes_15 : decode cX11_headOwes 15 = .ok (.aload_n 0, 1) := by decide +kernel
theorem dX11_headOwes_16 : decode cX11_headOwes 16 = .ok (.getfield 7, 3) := by decide +kernel
theorem dX11_headOwes_19 : decode cX11_headOwes 19 = .ok (.iload_n 1, 1) := by decide +kernel
theorem dX11_headOwes_20 : decode cX11_headOwes 20 = .ok (.iaload, 1) := by decide +kernel
theorem dX11_headOwes_21 : decode cX11_headOwes 21 = .ok (.idiv, 1) := by decide +kernel
theorem dX11_headOwes_22 : decode cX11_headOwes 22 = .ok (.ireturn, 1) := by decide +kernel
theorem dX11_dueOf_0 : decode cX11_dueOf 0 = .ok (.aload_n 0, 1) := by decide +kernel
theorem dX11_dueOf_1 : decode cX11_dueOf 1 = .ok (.getfield 32, 3) := by decide +kernel
theorem dX11_dueOf_4 : decode cX11_dueOf 4 = .ok (.iload_n 1, 1) := by decide +kernel
theorem dX11_dueOf_5 : decode cX11_dueOf 5 = .ok (.iaload, 1) := by decide +kernel
theorem dX11_dueOf_6 : decode cX11_dueOf 6 = .ok (.istore_n 2, 1) := by decide +kernel
theorem dX11_dueOf_7 : decode cX11_dueOf 7 = .ok (.iload_n 2, 1) := by decide +kernel
theorem dX11_dueOf_8 : decode cX11_dueOf 8 = .ok (.aload_n 0, 1) := by decide +kernel
theorem dX11_dueOf_9 : decode cX11_dueOf 9 = .ok (.getfield 29, 3) := by decide +kernel
theorem dX11_dueOf_12 : decode cX11_dueOf 12 = .ok (.iload_n 1, 1) := by decide +kernel
theorem dX11_dueOf_13 : decode cX11_dueOf 13 = .ok (.iaload, 1) := by decide +kernel
theorem dX11_dueOf_14 : decode cX11_dueOf 14 = .ok (.iadd, 1) := by decide +kernel
theorem dX11_dueOf_15 : decode cX11_dueOf 15 = .ok (.istore_n 3, 1) := by decide +kernel
theorem dX11_dueOf_16 : decode cX11_dueOf 16 = .ok (.aload_n 0, 1) := by decide +kernel
theorem dX11_dueOf_17 : decode cX11_dueOf 17 = .ok (.getfield 26, 3) := by decide +kernel
theorem dX11_dueOf_20 : decode cX11_dueOf 20 = .ok (.iload_n 1, 1) := by decide +kernel
theorem dX11_dueOf_21 : decode cX11_dueOf 21 = .ok (.iaload, 1) := by decide +kernel
theorem dX11_dueOf_22 : decode cX11_dueOf 22 = .ok (.tableswitch 65 1 5 #[34, 36, 40, 44, 61], 34) := by decide +kernel
theorem dX11_dueOf_56 : decode cX11_dueOf 56 = .ok (.iload_n 3, 1) := by decide +kernel
theorem dX11_dueOf_57 : decode cX11_dueOf 57 = .ok (.ireturn, 1) := by decide +kernel
theorem dX11_dueOf_58 : decode cX11_dueOf 58 = .ok (.iconst 2, 1) := by decide +kernel
theorem dX11_dueOf_59 : decode cX11_dueOf 59 = .ok (.iload_n 2, 1) := by decide +kernel
theorem dX11_dueOf_60 : decode cX11_dueOf 60 = .ok (.imul, 1) := by decide +kernel
theorem dX11_dueOf_61 : decode cX11_dueOf 61 = .ok (.ireturn, 1) := by decide +kernel
theorem dX11_dueOf_62 : decode cX11_dueOf 62 = .ok (.iload_n 3, 1) := by decide +kernel
theorem dX11_dueOf_63 : decode cX11_dueOf 63 = .ok (.iconst 2, 1) := by decide +kernel
theorem dX11_dueOf_64 : decode cX11_dueOf 64 = .ok (.idiv, 1) := by decide +kernel
theorem dX11_dueOf_65 : decode cX11_dueOf 65 = .ok (.ireturn, 1) := by decide +kernel
theorem dX11_dueOf_66 : decode cX11_dueOf 66 = .ok (.iconst 2, 1) := by decide +kernel
theorem dX11_dueOf_67 : decode cX11_dueOf 67 = .ok (.iload_n 2, 1) := by decide +kernel
theorem dX11_dueOf_68 : decode cX11_dueOf 68 = .ok (.imul, 1) := by decide +kernel
theorem dX11_dueOf_69 : decode cX11_dueOf 69 = .ok (.aload_n 0, 1) := by decide +kernel
theorem dX11_dueOf_70 : decode cX11_dueOf 70 = .ok (.getfield 29, 3) := by decide +kernel
theorem dX11_dueOf_73 : decode cX11_dueOf 73 = .ok (.iload_n 1, 1) := by decide +kernel
theorem dX11_dueOf_74 : decode cX11_dueOf 74 = .ok (.iaload, 1) := by decide +kernel
theorem dX11_dueOf_75 : decode cX11_dueOf 75 = .ok (.isub, 1) := by decide +kernel
theorem dX11_dueOf_76 : decode cX11_dueOf 76 = .ok (.iconst 1, 1) := by decide +kernel
theorem dX11_dueOf_77 : decode cX11_dueOf 77 = .ok (.ldc 96, 2) := by decide +kernel
theorem dX11_dueOf_79 : decode cX11_dueOf 79 = .ok (.invokestatic 97, 3) := by decide +kernel
theorem dX11_dueOf_82 : decode cX11_dueOf 82 = .ok (.ireturn, 1) := by decide +kernel
theorem dX11_dueOf_83 : decode cX11_dueOf 83 = .ok (.iload_n 3, 1) := by decide +kernel
theorem dX11_dueOf_84 : decode cX11_dueOf 84 = .ok (.iload_n 2, 1) := by decide +kernel
theorem dX11_dueOf_85 : decode cX11_dueOf 85 = .ok (.iadd, 1) := by decide +kernel
theorem dX11_dueOf_86 : decode cX11_dueOf 86 = .ok (.ireturn, 1) := by decide +kernel
theorem dX11_dueOf_87 : decode cX11_dueOf 87 = .ok (.iload_n 2, 1) := by decide +kernel
theorem dX11_dueOf_88 : decode cX11_dueOf 88 = .ok (.ireturn, 1) := by decide +kernel
theorem dX11_mostHeads_0 : decode cX11_mostHeads 0 = .ok (.iconst 0, 1) := by decide +kernel
theorem dX11_mostHeads_1 : decode cX11_mostHeads 1 = .ok (.istore_n 1, 1) := by decide +kernel
theorem dX11_mostHeads_2 : decode cX11_mostHeads 2 = .ok (.iconst 1, 1) := by decide +kernel
theorem dX11_mostHeads_3 : decode cX11_mostHeads 3 = .ok (.istore_n 2, 1) := by decide +kernel
theorem dX11_mostHeads_4 : decode cX11_mostHeads 4 = .ok (.iload_n 2, 1) := by decide +kernel
theorem dX11_mostHeads_5 : decode cX11_mostHeads 5 = .ok (.aload_n 0, 1) := by decide +kernel
theorem dX11_mostHeads_6 : decode cX11_mostHeads 6 = .ok (.getfield 86, 3) := by decide +kernel
theorem dX11_mostHeads_9 : decode cX11_mostHeads 9 = .ok (.if_icmp .ge 30, 3) := by decide +kernel
theorem dX11_mostHeads_12 : decode cX11_mostHeads 12 = .ok (.aload_n 0, 1) := by decide +kernel
theorem dX11_mostHeads_13 : decode cX11_mostHeads 13 = .ok (.getfield 7, 3) := by decide +kernel
theorem dX11_mostHeads_16 : decode cX11_mostHeads 16 = .ok (.iload_n 2, 1) := by decide +kernel
theorem dX11_mostHeads_17 : decode cX11_mostHeads 17 = .ok (.iaload, 1) := by decide +kernel
theorem dX11_mostHeads_18 : decode cX11_mostHeads 18 = .ok (.aload_n 0, 1) := by decide +kernel
theorem dX11_mostHeads_19 : decode cX11_mostHeads 19 = .ok (.getfield 7, 3) := by decide +kernel
theorem dX11_mostHeads_22 : decode cX11_mostHeads 22 = .ok (.iload_n 1, 1) := by decide +kernel
theorem dX11_mostHeads_23 : decode cX11_mostHeads 23 = .ok (.iaload, 1) := by decide +kernel
theorem dX11_mostHeads_24 : decode cX11_mostHeads 24 = .ok (.if_icmp .le 7, 3) := by decide +kernel
theorem dX11_mostHeads_27 : decode cX11_mostHeads 27 = .ok (.iload_n 2, 1) := by decide +kernel
theorem dX11_mostHeads_28 : decode cX11_mostHeads 28 = .ok (.goto 4, 3) := by decide +kernel
theorem dX11_mostHeads_31 : decode cX11_mostHeads 31 = .ok (.iload_n 1, 1) := by decide +kernel
theorem dX11_mostHeads_32 : decode cX11_mostHeads 32 = .ok (.istore_n 1, 1) := by decide +kernel
theorem dX11_mostHeads_33 : decode cX11_mostHeads 33 = .ok (.iinc 2 1, 3) := by decide +kernel
theorem dX11_mostHeads_36 : decode cX11_mostHeads 36 = .ok (.goto (-32), 3) := by decide +kernel
theorem dX11_mostHeads_39 : decode cX11_mostHeads 39 = .ok (.iload_n 1, 1) := by decide +kernel
theorem dX11_mostHeads_40 : decode cX11_mostHeads 40 = .ok (.ireturn, 1) := by decide +kernel
theorem dX11_leastDebt_0 : decode cX11_leastDebt 0 = .ok (.iconst 0, 1) := by decide +kernel
theorem dX11_leastDebt_1 : decode cX11_leastDebt 1 = .ok (.istore_n 1, 1) := by decide +kernel
theorem dX11_leastDebt_2 : decode cX11_leastDebt 2 = .ok (.iconst 1, 1) := by decide +kernel
theorem dX11_leastDebt_3 : decode cX11_leastDebt 3 = .ok (.istore_n 2, 1) := by decide +kernel
theorem dX11_leastDebt_4 : decode cX11_leastDebt 4 = .ok (.iload_n 2, 1) := by decide +kernel
theorem dX11_leastDebt_5 : decode cX11_leastDebt 5 = .ok (.aload_n 0, 1) := by decide +kernel
theorem dX11_leastDebt_6 : decode cX11_leastDebt 6 = .ok (.getfield 86, 3) := by decide +kernel
theorem dX11_leastDebt_9 : decode cX11_leastDebt 9 = .ok (.if_icmp .ge 30, 3) := by decide +kernel
theorem dX11_leastDebt_12 : decode cX11_leastDebt 12 = .ok (.aload_n 0, 1) := by decide +kernel
theorem dX11_leastDebt_13 : decode cX11_leastDebt 13 = .ok (.getfield 13, 3) := by decide +kernel
theorem dX11_leastDebt_16 : decode cX11_leastDebt 16 = .ok (.iload_n 2, 1) := by decide +kernel
theorem dX11_leastDebt_17 : decode cX11_leastDebt 17 = .ok (.iaload, 1) := by decide +kernel
theorem dX11_leastDebt_18 : decode cX11_leastDebt 18 = .ok (.aload_n 0, 1) := by decide +kernel
theorem dX11_leastDebt_19 : decode cX11_leastDebt 19 = .ok (.getfield 13, 3) := by decide +kernel
theorem dX11_leastDebt_22 : decode cX11_leastDebt 22 = .ok (.iload_n 1, 1) := by decide +kernel
theorem dX11_leastDebt_23 : decode cX11_leastDebt 23 = .ok (.iaload, 1) := by decide +kernel
theorem dX11_leastDebt_24 : decode cX11_leastDebt 24 = .ok (.if_icmp .ge 7, 3) := by decide +kernel
theorem dX11_leastDebt_27 : decode cX11_leastDebt 27 = .ok (.iload_n 2, 1) := by decide +kernel
theorem dX11_leastDebt_28 : decode cX11_leastDebt 28 = .ok (.goto 4, 3) := by decide +kernel
theorem dX11_leastDebt_31 : decode cX11_leastDebt 31 = .ok (.iload_n 1, 1) := by decide +kernel
theorem dX11_leastDebt_32 : decode cX11_leastDebt 32 = .ok (.istore_n 1, 1) := by decide +kernel
theorem dX11_leastDebt_33 : decode cX11_leastDebt 33 = .ok (.iinc 2 1, 3) := by decide +kernel
theorem dX11_leastDebt_36 : decode cX11_leastDebt 36 = .ok (.goto (-32), 3) := by decide +kernel
theorem dX11_leastDebt_39 : decode cX11_leastDebt 39 = .ok (.iload_n 1, 1) := by decide +kernel
theorem dX11_leastDebt_40 : decode cX11_leastDebt 40 = .ok (.ireturn, 1) := by decide +kernel
theorem dX11_layParts_0 : decode cX11_layParts 0 = .ok (.aload_n 0, 1) := by decide +kernel
theorem dX11_layParts_1 : decode cX11_layParts 1 = .ok (.getfield 26, 3) := by decide +kernel
theorem dX11_layParts_4 : decode cX11_layParts 4 = .ok (.iload_n 1, 1) := by decide +kernel
theorem dX11_layParts_5 : decode cX11_layParts 5 = .ok (.iaload, 1) := by decide +kernel
theorem dX11_layParts_6 : decode cX11_layParts 6 = .ok (.istore_n 2, 1) := by decide +kernel
theorem dX11_layParts_7 : decode cX11_layParts 7 = .ok (.iconst 0, 1) := by decide +kernel
theorem dX11_layParts_8 : decode cX11_layParts 8 = .ok (.istore_n 3, 1) := by decide +kernel
theorem dX11_layParts_9 : decode cX11_layParts 9 = .ok (.iconst 0, 1) := by decide +kernel
theorem dX11_layParts_10 : decode cX11_layParts 10 = .ok (.istore 4, 2) := by decide +kernel
theorem dX11_layParts_12 : decode cX11_layParts 12 = .ok (.iload 4, 2) := by decide +kernel
theorem dX11_layParts_14 : decode cX11_layParts 14 = .ok (.aload_n 0, 1) := by decide +kernel
theorem dX11_layParts_15 : decode cX11_layParts 15 = .ok (.getfield 86, 3) := by decide +kernel
theorem dX11_layParts_18 : decode cX11_layParts 18 = .ok (.if_icmp .ge 33, 3) := by decide +kernel
theorem dX11_layParts_21 : decode cX11_layParts 21 = .ok (.iload_n 3, 1) := by decide +kernel
theorem dX11_layParts_22 : decode cX11_layParts 22 = .ok (.aload_n 0, 1) := by decide +kernel
theorem dX11_layParts_23 : decode cX11_layParts 23 = .ok (.getfield 19, 3) := by decide +kernel
theorem dX11_layParts_26 : decode cX11_layParts 26 = .ok (.iload 4, 2) := by decide +kernel
theorem dX11_layParts_28 : decode cX11_layParts 28 = .ok (.iaload, 1) := by decide +kernel
theorem dX11_layParts_29 : decode cX11_layParts 29 = .ok (.ifCond .le 13, 3) := by decide +kernel
theorem dX11_layParts_32 : decode cX11_layParts 32 = .ok (.aload_n 0, 1) := by decide +kernel
theorem dX11_layParts_33 : decode cX11_layParts 33 = .ok (.getfield 7, 3) := by decide +kernel
theorem dX11_layParts_36 : decode cX11_layParts 36 = .ok (.iload 4, 2) := by decide +kernel
theorem dX11_layParts_38 : decode cX11_layParts 38 = .ok (.iaload, 1) := by decide +kernel
theorem dX11_layParts_39 : decode cX11_layParts 39 = .ok (.goto 4, 3) := by decide +kernel
theorem dX11_layParts_42 : decode cX11_layParts 42 = .ok (.iconst 0, 1) := by decide +kernel
theorem dX11_layParts_43 : decode cX11_layParts 43 = .ok (.iadd, 1) := by decide +kernel
theorem dX11_layParts_44 : decode cX11_layParts 44 = .ok (.istore_n 3, 1) := by decide +kernel
theorem dX11_layParts_45 : decode cX11_layParts 45 = .ok (.iinc 4 1, 3) := by decide +kernel
theorem dX11_layParts_48 : decode cX11_layParts 48 = .ok (.goto (-36), 3) := by decide +kernel
theorem dX11_layParts_51 : decode cX11_layParts 51 = .ok (.iconst 0, 1) := by decide +kernel
theorem dX11_layParts_52 : decode cX11_layParts 52 = .ok (.istore 4, 2) := by decide +kernel
theorem dX11_layParts_54 : decode cX11_layParts 54 = .ok (.iload 4, 2) := by decide +kernel
theorem dX11_layParts_56 : decode cX11_layParts 56 = .ok (.iconst 5, 1) := by decide +kernel
theorem dX11_layParts_57 : decode cX11_layParts 57 = .ok (.if_icmp .ge 165, 3) := by decide +kernel
theorem dX11_layParts_60 : decode cX11_layParts 60 = .ok (.iload_n 2, 1) := by decide +kernel
theorem dX11_layParts_61 : decode cX11_layParts 61 = .ok (.iconst 3, 1) := by decide +kernel
theorem dX11_layParts_62 : decode cX11_layParts 62 = .ok (.if_icmp .ne 17, 3) := by decide +kernel
theorem dX11_layParts_65 : decode cX11_layParts 65 = .ok (.iload_n 3, 1) := by decide +kernel
theorem dX11_layParts_66 : decode cX11_layParts 66 = .ok (.ifCond .eq 13, 3) := by decide +kernel
theorem dX11_layParts_69 : decode cX11_layParts 69 = .ok (.aload_n 0, 1) := by decide +kernel
theorem dX11_layParts_70 : decode cX11_layParts 70 = .ok (.getfield 19, 3) := by decide +kernel
theorem dX11_layParts_73 : decode cX11_layParts 73 = .ok (.iload 4, 2) := by decide +kernel
theorem dX11_layParts_75 : decode cX11_layParts 75 = .ok (.iaload, 1) := by decide +kernel
theorem dX11_layParts_76 : decode cX11_layParts 76 = .ok (.ifCond .le 7, 3) := by decide +kernel
theorem dX11_layParts_79 : decode cX11_layParts 79 = .ok (.iconst 1, 1) := by decide +kernel
theorem dX11_layParts_80 : decode cX11_layParts 80 = .ok (.goto 4, 3) := by decide +kernel
theorem dX11_layParts_83 : decode cX11_layParts 83 = .ok (.iconst 0, 1) := by decide +kernel
theorem dX11_layParts_84 : decode cX11_layParts 84 = .ok (.istore 5, 2) := by decide +kernel
theorem dX11_layParts_86 : decode cX11_layParts 86 = .ok (.aload_n 0, 1) := by decide +kernel
theorem dX11_layParts_87 : decode cX11_layParts 87 = .ok (.getfield 44, 3) := by decide +kernel
theorem dX11_layParts_90 : decode cX11_layParts 90 = .ok (.iload 4, 2) := by decide +kernel
theorem dX11_layParts_92 : decode cX11_layParts 92 = .ok (.iload 4, 2) := by decide +kernel
theorem dX11_layParts_94 : decode cX11_layParts 94 = .ok (.aload_n 0, 1) := by decide +kernel
theorem dX11_layParts_95 : decode cX11_layParts 95 = .ok (.getfield 86, 3) := by decide +kernel
theorem dX11_layParts_98 : decode cX11_layParts 98 = .ok (.if_icmp .lt 7, 3) := by decide +kernel
theorem dX11_layParts_101 : decode cX11_layParts 101 = .ok (.iconst 0, 1) := by decide +kernel
theorem dX11_layParts_102 : decode cX11_layParts 102 = .ok (.goto 27, 3) := by decide +kernel
theorem dX11_layParts_105 : decode cX11_layParts 105 = .ok (.iload_n 2, 1) := by decide +kernel
theorem dX11_layParts_106 : decode cX11_layParts 106 = .ok (.ifCond .ne 7, 3) := by decide +kernel
theorem dX11_layParts_109 : decode cX11_layParts 109 = .ok (.iconst 1, 1) := by decide +kernel
theorem dX11_layParts_110 : decode cX11_layParts 110 = .ok (.goto 19, 3) := by decide +kernel
theorem dX11_layParts_113 : decode cX11_layParts 113 = .ok (.iload 5, 2) := by decide +kernel
theorem dX11_layParts_115 : decode cX11_layParts 115 = .ok (.ifCond .eq 13, 3) := by decide +kernel
theorem dX11_layParts_118 : decode cX11_layParts 118 = .ok (.aload_n 0, 1) := by decide +kernel
theorem dX11_layParts_119 : decode cX11_layParts 119 = .ok (.getfield 7, 3) := by decide +kernel
theorem dX11_layParts_122 : decode cX11_layParts 122 = .ok (.iload 4, 2) := by decide +kernel
theorem dX11_layParts_124 : decode cX11_layParts 124 = .ok (.iaload, 1) := by decide +kernel
theorem dX11_layParts_125 : decode cX11_layParts 125 = .ok (.goto 4, 3) := by decide +kernel
theorem dX11_layParts_128 : decode cX11_layParts 128 = .ok (.iconst 0, 1) := by decide +kernel
theorem dX11_layParts_129 : decode cX11_layParts 129 = .ok (.iastore, 1) := by decide +kernel
theorem dX11_layParts_130 : decode cX11_layParts 130 = .ok (.aload_n 0, 1) := by decide +kernel
theorem dX11_layParts_131 : decode cX11_layParts 131 = .ok (.getfield 44, 3) := by decide +kernel
theorem dX11_layParts_134 : decode cX11_layParts 134 = .ok (.iload 4, 2) := by decide +kernel
theorem dX11_layParts_136 : decode cX11_layParts 136 = .ok (.iload_n 2, 1) := by decide +kernel
theorem dX11_layParts_137 : decode cX11_layParts 137 = .ok (.iconst 2, 1) := by decide +kernel
theorem dX11_layParts_138 : decode cX11_layParts 138 = .ok (.if_icmp .ne 27, 3) := by decide +kernel
theorem dX11_layParts_141 : decode cX11_layParts 141 = .ok (.iload 4, 2) := by decide +kernel
theorem dX11_layParts_143 : decode cX11_layParts 143 = .ok (.aload_n 0, 1) := by decide +kernel
theorem dX11_layParts_144 : decode cX11_layParts 144 = .ok (.invokevirtual 101, 3) := by decide +kernel
theorem dX11_layParts_147 : decode cX11_layParts 147 = .ok (.if_icmp .ne 14, 3) := by decide +kernel
theorem dX11_layParts_150 : decode cX11_layParts 150 = .ok (.aload_n 0, 1) := by decide +kernel
theorem dX11_layParts_151 : decode cX11_layParts 151 = .ok (.getfield 86, 3) := by decide +kernel
theorem dX11_layParts_154 : decode cX11_layParts 154 = .ok (.ifCond .le 7, 3) := by decide +kernel
theorem dX11_layParts_157 : decode cX11_layParts 157 = .ok (.iconst 1, 1) := by decide +kernel
theorem dX11_layParts_158 : decode cX11_layParts 158 = .ok (.goto 14, 3) := by decide +kernel
theorem dX11_layParts_161 : decode cX11_layParts 161 = .ok (.iconst 0, 1) := by decide +kernel
theorem dX11_layParts_162 : decode cX11_layParts 162 = .ok (.goto 10, 3) := by decide +kernel
theorem dX11_layParts_165 : decode cX11_layParts 165 = .ok (.aload_n 0, 1) := by decide +kernel
theorem dX11_layParts_166 : decode cX11_layParts 166 = .ok (.getfield 44, 3) := by decide +kernel
theorem dX11_layParts_169 : decode cX11_layParts 169 = .ok (.iload 4, 2) := by decide +kernel
theorem dX11_layParts_171 : decode cX11_layParts 171 = .ok (.iaload, 1) := by decide +kernel
theorem dX11_layParts_172 : decode cX11_layParts 172 = .ok (.iastore, 1) := by decide +kernel
theorem dX11_layParts_173 : decode cX11_layParts 173 = .ok (.aload_n 0, 1) := by decide +kernel
theorem dX11_layParts_174 : decode cX11_layParts 174 = .ok (.getfield 44, 3) := by decide +kernel
theorem dX11_layParts_177 : decode cX11_layParts 177 = .ok (.iload 4, 2) := by decide +kernel
theorem dX11_layParts_179 : decode cX11_layParts 179 = .ok (.iload_n 2, 1) := by decide +kernel
theorem dX11_layParts_180 : decode cX11_layParts 180 = .ok (.iconst 4, 1) := by decide +kernel
theorem dX11_layParts_181 : decode cX11_layParts 181 = .ok (.if_icmp .ne 27, 3) := by decide +kernel
theorem dX11_layParts_184 : decode cX11_layParts 184 = .ok (.iload 4, 2) := by decide +kernel
theorem dX11_layParts_186 : decode cX11_layParts 186 = .ok (.aload_n 0, 1) := by decide +kernel
theorem dX11_layParts_187 : decode cX11_layParts 187 = .ok (.invokevirtual 105, 3) := by decide +kernel
theorem dX11_layParts_190 : decode cX11_layParts 190 = .ok (.if_icmp .ne 14, 3) := by decide +kernel
theorem dX11_layParts_193 : decode cX11_layParts 193 = .ok (.aload_n 0, 1) := by decide +kernel
theorem dX11_layParts_194 : decode cX11_layParts 194 = .ok (.getfield 86, 3) := by decide +kernel
theorem dX11_layParts_197 : decode cX11_layParts 197 = .ok (.ifCond .le 7, 3) := by decide +kernel
theorem dX11_layParts_200 : decode cX11_layParts 200 = .ok (.iconst 1, 1) := by decide +kernel
theorem dX11_layParts_201 : decode cX11_layParts 201 = .ok (.goto 14, 3) := by decide +kernel
theorem dX11_layParts_204 : decode cX11_layParts 204 = .ok (.iconst 0, 1) := by decide +kernel
theorem dX11_layParts_205 : decode cX11_layParts 205 = .ok (.goto 10, 3) := by decide +kernel
theorem dX11_layParts_208 : decode cX11_layParts 208 = .ok (.aload_n 0, 1) := by decide +kernel
theorem dX11_layParts_209 : decode cX11_layParts 209 = .ok (.getfield 44, 3) := by decide +kernel
theorem dX11_layParts_212 : decode cX11_layParts 212 = .ok (.iload 4, 2) := by decide +kernel
theorem dX11_layParts_214 : decode cX11_layParts 214 = .ok (.iaload, 1) := by decide +kernel
theorem dX11_layParts_215 : decode cX11_layParts 215 = .ok (.iastore, 1) := by decide +kernel
theorem dX11_layParts_216 : decode cX11_layParts 216 = .ok (.iinc 4 1, 3) := by decide +kernel
theorem dX11_layParts_219 : decode cX11_layParts 219 = .ok (.goto (-165), 3) := by decide +kernel
theorem dX11_layParts_222 : decode cX11_layParts 222 = .ok (.return_, 1) := by decide +kernel
theorem dX11_layShares_0 : decode cX11_layShares 0 = .ok (.aload_n 0, 1) := by decide +kernel
theorem dX11_layShares_1 : decode cX11_layShares 1 = .ok (.iload_n 1, 1) := by decide +kernel
theorem dX11_layShares_2 : decode cX11_layShares 2 = .ok (.invokevirtual 108, 3) := by decide +kernel
theorem dX11_layShares_5 : decode cX11_layShares 5 = .ok (.aload_n 0, 1) := by decide +kernel
theorem dX11_layShares_6 : decode cX11_layShares 6 = .ok (.iload_n 1, 1) := by decide +kernel
theorem dX11_layShares_7 : decode cX11_layShares 7 = .ok (.invokevirtual 112, 3) := by decide +kernel
theorem dX11_layShares_10 : decode cX11_layShares 10 = .ok (.istore_n 2, 1) := by decide +kernel
theorem dX11_layShares_11 : decode cX11_layShares 11 = .ok (.iconst 0, 1) := by decide +kernel
theorem dX11_layShares_12 : decode cX11_layShares 12 = .ok (.istore_n 3, 1) := by decide +kernel
theorem dX11_layShares_13 : decode cX11_layShares 13 = .ok (.iconst 0, 1) := by decide +kernel
theorem dX11_layShares_14 : decode cX11_layShares 14 = .ok (.istore 4, 2) := by decide +kernel
theorem dX11_layShares_16 : decode cX11_layShares 16 = .ok (.iload 4, 2) := by decide +kernel
theorem dX11_layShares_18 : decode cX11_layShares 18 = .ok (.iconst 5, 1) := by decide +kernel
theorem dX11_layShares_19 : decode cX11_layShares 19 = .ok (.if_icmp .ge 19, 3) := by decide +kernel
theorem dX11_layShares_22 : decode cX11_layShares 22 = .ok (.iload_n 3, 1) := by decide +kernel
theorem dX11_layShares_23 : decode cX11_layShares 23 = .ok (.aload_n 0, 1) := by decide +kernel
theorem dX11_layShares_24 : decode cX11_layShares 24 = .ok (.getfield 44, 3) := by decide +kernel
theorem dX11_layShares_27 : decode cX11_layShares 27 = .ok (.iload 4, 2) := by decide +kernel
theorem dX11_layShares_29 : decode cX11_layShares 29 = .ok (.iaload, 1) := by decide +kernel
theorem dX11_layShares_30 : decode cX11_layShares 30 = .ok (.iadd, 1) := by decide +kernel
theorem dX11_layShares_31 : decode cX11_layShares 31 = .ok (.istore_n 3, 1) := by decide +kernel
theorem dX11_layShares_32 : decode cX11_layShares 32 = .ok (.iinc 4 1, 3) := by decide +kernel
theorem dX11_layShares_35 : decode cX11_layShares 35 = .ok (.goto (-19), 3) := by decide +kernel
theorem dX11_layShares_38 : decode cX11_layShares 38 = .ok (.iload_n 2, 1) := by decide +kernel
theorem dX11_layShares_39 : decode cX11_layShares 39 = .ok (.istore 4, 2) := by decide +kernel
theorem dX11_layShares_41 : decode cX11_layShares 41 = .ok (.iconst 0, 1) := by decide +kernel
theorem dX11_layShares_42 : decode cX11_layShares 42 = .ok (.istore 5, 2) := by decide +kernel
theorem dX11_layShares_44 : decode cX11_layShares 44 = .ok (.iload 5, 2) := by decide +kernel
theorem dX11_layShares_46 : decode cX11_layShares 46 = .ok (.iconst 5, 1) := by decide +kernel
theorem dX11_layShares_47 : decode cX11_layShares 47 = .ok (.if_icmp .ge 47, 3) := by decide +kernel
theorem dX11_layShares_50 : decode cX11_layShares 50 = .ok (.aload_n 0, 1) := by decide +kernel
theorem dX11_layShares_51 : decode cX11_layShares 51 = .ok (.getfield 41, 3) := by decide +kernel
theorem dX11_layShares_54 : decode cX11_layShares 54 = .ok (.iload 5, 2) := by decide +kernel
theorem dX11_layShares_56 : decode cX11_layShares 56 = .ok (.iload_n 3, 1) := by decide +kernel
theorem dX11_layShares_57 : decode cX11_layShares 57 = .ok (.ifCond .ne 7, 3) := by decide +kernel
theorem dX11_layShares_60 : decode cX11_layShares 60 = .ok (.iconst 0, 1) := by decide +kernel
theorem dX11_layShares_61 : decode cX11_layShares 61 = .ok (.goto 14, 3) := by decide +kernel
theorem dX11_layShares_64 : decode cX11_layShares 64 = .ok (.iload_n 2, 1) := by decide +kernel
theorem dX11_layShares_65 : decode cX11_layShares 65 = .ok (.aload_n 0, 1) := by decide +kernel
theorem dX11_layShares_66 : decode cX11_layShares 66 = .ok (.getfield 44, 3) := by decide +kernel
theorem dX11_layShares_69 : decode cX11_layShares 69 = .ok (.iload 5, 2) := by decide +kernel
theorem dX11_layShares_71 : decode cX11_layShares 71 = .ok (.iaload, 1) := by decide +kernel
theorem dX11_layShares_72 : decode cX11_layShares 72 = .ok (.imul, 1) := by decide +kernel
theorem dX11_layShares_73 : decode cX11_layShares 73 = .ok (.iload_n 3, 1) := by decide +kernel
theorem dX11_layShares_74 : decode cX11_layShares 74 = .ok (.idiv, 1) := by decide +kernel
theorem dX11_layShares_75 : decode cX11_layShares 75 = .ok (.iastore, 1) := by decide +kernel
theorem dX11_layShares_76 : decode cX11_layShares 76 = .ok (.iload 4, 2) := by decide +kernel
theorem dX11_layShares_78 : decode cX11_layShares 78 = .ok (.aload_n 0, 1) := by decide +kernel
theorem dX11_layShares_79 : decode cX11_layShares 79 = .ok (.getfield 41, 3) := by decide +kernel
theorem dX11_layShares_82 : decode cX11_layShares 82 = .ok (.iload 5, 2) := by decide +kernel
theorem dX11_layShares_84 : decode cX11_layShares 84 = .ok (.iaload, 1) := by decide +kernel
theorem dX11_layShares_85 : decode cX11_layShares 85 = .ok (.isub, 1) := by decide +kernel
theorem dX11_layShares_86 : decode cX11_layShares 86 = .ok (.istore 4, 2) := by decide +kernel
theorem dX11_layShares_88 : decode cX11_layShares 88 = .ok (.iinc 5 1, 3) := by decide +kernel
theorem dX11_layShares_91 : decode cX11_layShares 91 = .ok (.goto (-47), 3) := by decide +kernel
theorem dX11_layShares_94 : decode cX11_layShares 94 = .ok (.iconst 0, 1) := by decide +kernel
theorem dX11_layShares_95 : decode cX11_layShares 95 = .ok (.istore 5, 2) := by decide +kernel
theorem dX11_layShares_97 : decode cX11_layShares 97 = .ok (.iload 5, 2) := by decide +kernel
theorem dX11_layShares_99 : decode cX11_layShares 99 = .ok (.iconst 5, 1) := by decide +kernel
theorem dX11_layShares_100 : decode cX11_layShares 100 = .ok (.if_icmp .ge 70, 3) := by decide +kernel
theorem dX11_layShares_103 : decode cX11_layShares 103 = .ok (.iload_n 3, 1) := by decide +kernel
theorem dX11_layShares_104 : decode cX11_layShares 104 = .ok (.ifCond .le 22, 3) := by decide +kernel
theorem dX11_layShares_107 : decode cX11_layShares 107 = .ok (.iload 4, 2) := by decide +kernel
theorem dX11_layShares_109 : decode cX11_layShares 109 = .ok (.ifCond .le 17, 3) := by decide +kernel
theorem dX11_layShares_112 : decode cX11_layShares 112 = .ok (.aload_n 0, 1) := by decide +kernel
theorem dX11_layShares_113 : decode cX11_layShares 113 = .ok (.getfield 44, 3) := by decide +kernel
theorem dX11_layShares_116 : decode cX11_layShares 116 = .ok (.iload 5, 2) := by decide +kernel
theorem dX11_layShares_118 : decode cX11_layShares 118 = .ok (.iaload, 1) := by decide +kernel
theorem dX11_layShares_119 : decode cX11_layShares 119 = .ok (.ifCond .le 7, 3) := by decide +kernel
theorem dX11_layShares_122 : decode cX11_layShares 122 = .ok (.iconst 1, 1) := by decide +kernel
theorem dX11_layShares_123 : decode cX11_layShares 123 = .ok (.goto 4, 3) := by decide +kernel
theorem dX11_layShares_126 : decode cX11_layShares 126 = .ok (.iconst 0, 1) := by decide +kernel
theorem dX11_layShares_127 : decode cX11_layShares 127 = .ok (.istore 6, 2) := by decide +kernel
theorem dX11_layShares_129 : decode cX11_layShares 129 = .ok (.aload_n 0, 1) := by decide +kernel
theorem dX11_layShares_130 : decode cX11_layShares 130 = .ok (.getfield 41, 3) := by decide +kernel
theorem dX11_layShares_133 : decode cX11_layShares 133 = .ok (.iload 5, 2) := by decide +kernel
theorem dX11_layShares_135 : decode cX11_layShares 135 = .ok (.dup2, 1) := by decide +kernel
theorem dX11_layShares_136 : decode cX11_layShares 136 = .ok (.iaload, 1) := by decide +kernel
theorem dX11_layShares_137 : decode cX11_layShares 137 = .ok (.iload 6, 2) := by decide +kernel
theorem dX11_layShares_139 : decode cX11_layShares 139 = .ok (.ifCond .eq 7, 3) := by decide +kernel
theorem dX11_layShares_142 : decode cX11_layShares 142 = .ok (.iconst 1, 1) := by decide +kernel
theorem dX11_layShares_143 : decode cX11_layShares 143 = .ok (.goto 4, 3) := by decide +kernel
theorem dX11_layShares_146 : decode cX11_layShares 146 = .ok (.iconst 0, 1) := by decide +kernel
theorem dX11_layShares_147 : decode cX11_layShares 147 = .ok (.iadd, 1) := by decide +kernel
theorem dX11_layShares_148 : decode cX11_layShares 148 = .ok (.iastore, 1) := by decide +kernel
theorem dX11_layShares_149 : decode cX11_layShares 149 = .ok (.iload 4, 2) := by decide +kernel
theorem dX11_layShares_151 : decode cX11_layShares 151 = .ok (.iload 6, 2) := by decide +kernel
theorem dX11_layShares_153 : decode cX11_layShares 153 = .ok (.ifCond .eq 7, 3) := by decide +kernel
theorem dX11_layShares_156 : decode cX11_layShares 156 = .ok (.iconst 1, 1) := by decide +kernel
theorem dX11_layShares_157 : decode cX11_layShares 157 = .ok (.goto 4, 3) := by decide +kernel
theorem dX11_layShares_160 : decode cX11_layShares 160 = .ok (.iconst 0, 1) := by decide +kernel
theorem dX11_layShares_161 : decode cX11_layShares 161 = .ok (.isub, 1) := by decide +kernel
theorem dX11_layShares_162 : decode cX11_layShares 162 = .ok (.istore 4, 2) := by decide +kernel
theorem dX11_layShares_164 : decode cX11_layShares 164 = .ok (.iinc 5 1, 3) := by decide +kernel
theorem dX11_layShares_167 : decode cX11_layShares 167 = .ok (.goto (-70), 3) := by decide +kernel
theorem dX11_layShares_170 : decode cX11_layShares 170 = .ok (.return_, 1) := by decide +kernel
theorem dX11_lastBuilt_0 : decode cX11_lastBuilt 0 = .ok (.iconst 0, 1) := by decide +kernel
theorem dX11_lastBuilt_1 : decode cX11_lastBuilt 1 = .ok (.istore_n 1, 1) := by decide +kernel
theorem dX11_lastBuilt_2 : decode cX11_lastBuilt 2 = .ok (.iconst 0, 1) := by decide +kernel
theorem dX11_lastBuilt_3 : decode cX11_lastBuilt 3 = .ok (.istore_n 2, 1) := by decide +kernel
theorem dX11_lastBuilt_4 : decode cX11_lastBuilt 4 = .ok (.iload_n 2, 1) := by decide +kernel
theorem dX11_lastBuilt_5 : decode cX11_lastBuilt 5 = .ok (.aload_n 0, 1) := by decide +kernel
theorem dX11_lastBuilt_6 : decode cX11_lastBuilt 6 = .ok (.getfield 93, 3) := by decide +kernel
theorem dX11_lastBuilt_9 : decode cX11_lastBuilt 9 = .ok (.if_icmp .ge 30, 3) := by decide +kernel
theorem dX11_lastBuilt_12 : decode cX11_lastBuilt 12 = .ok (.aload_n 0, 1) := by decide +kernel
theorem dX11_lastBuilt_13 : decode cX11_lastBuilt 13 = .ok (.getfield 35, 3) := by decide +kernel
theorem dX11_lastBuilt_16 : decode cX11_lastBuilt 16 = .ok (.iload_n 2, 1) := by decide +kernel
theorem dX11_lastBuilt_17 : decode cX11_lastBuilt 17 = .ok (.iaload, 1) := by decide +kernel
theorem dX11_lastBuilt_18 : decode cX11_lastBuilt 18 = .ok (.iload_n 1, 1) := by decide +kernel
theorem dX11_lastBuilt_19 : decode cX11_lastBuilt 19 = .ok (.if_icmp .le 12, 3) := by decide +kernel
theorem dX11_lastBuilt_22 : decode cX11_lastBuilt 22 = .ok (.aload_n 0, 1) := by decide +kernel
theorem dX11_lastBuilt_23 : decode cX11_lastBuilt 23 = .ok (.getfield 35, 3) := by decide +kernel
theorem dX11_lastBuilt_26 : decode cX11_lastBuilt 26 = .ok (.iload_n 2, 1) := by decide +kernel
theorem dX11_lastBuilt_27 : decode cX11_lastBuilt 27 = .ok (.iaload, 1) := by decide +kernel
theorem dX11_lastBuilt_28 : decode cX11_lastBuilt 28 = .ok (.goto 4, 3) := by decide +kernel
theorem dX11_lastBuilt_31 : decode cX11_lastBuilt 31 = .ok (.iload_n 1, 1) := by decide +kernel
theorem dX11_lastBuilt_32 : decode cX11_lastBuilt 32 = .ok (.istore_n 1, 1) := by decide +kernel
theorem dX11_lastBuilt_33 : decode cX11_lastBuilt 33 = .ok (.iinc 2 1, 3) := by decide +kernel
theorem dX11_lastBuilt_36 : decode cX11_lastBuilt 36 = .ok (.goto (-32), 3) := by decide +kernel
theorem dX11_lastBuilt_39 : decode cX11_lastBuilt 39 = .ok (.iload_n 1, 1) := by decide +kernel
theorem dX11_lastBuilt_40 : decode cX11_lastBuilt 40 = .ok (.ireturn, 1) := by decide +kernel
theorem dX11_build_0 : decode cX11_build 0 = .ok (.aload_n 0, 1) := by decide +kernel
theorem dX11_build_1 : decode cX11_build 1 = .ok (.iload_n 1, 1) := by decide +kernel
theorem dX11_build_2 : decode cX11_build 2 = .ok (.invokevirtual 116, 3) := by decide +kernel
theorem dX11_build_5 : decode cX11_build 5 = .ok (.iconst 0, 1) := by decide +kernel
theorem dX11_build_6 : decode cX11_build 6 = .ok (.istore_n 2, 1) := by decide +kernel
theorem dX11_build_7 : decode cX11_build 7 = .ok (.iload_n 2, 1) := by decide +kernel
theorem dX11_build_8 : decode cX11_build 8 = .ok (.aload_n 0, 1) := by decide +kernel
theorem dX11_build_9 : decode cX11_build 9 = .ok (.getfield 86, 3) := by decide +kernel
theorem dX11_build_12 : decode cX11_build 12 = .ok (.if_icmp .ge 34, 3) := by decide +kernel
theorem dX11_build_15 : decode cX11_build 15 = .ok (.aload_n 0, 1) := by decide +kernel
theorem dX11_build_16 : decode cX11_build 16 = .ok (.getfield 13, 3) := by decide +kernel
theorem dX11_build_19 : decode cX11_build 19 = .ok (.iload_n 2, 1) := by decide +kernel
theorem dX11_build_20 : decode cX11_build 20 = .ok (.aload_n 0, 1) := by decide +kernel
theorem dX11_build_21 : decode cX11_build 21 = .ok (.getfield 13, 3) := by decide +kernel
theorem dX11_build_24 : decode cX11_build 24 = .ok (.iload_n 2, 1) := by decide +kernel
theorem dX11_build_25 : decode cX11_build 25 = .ok (.iaload, 1) := by decide +kernel
theorem dX11_build_26 : decode cX11_build 26 = .ok (.aload_n 0, 1) := by decide +kernel
theorem dX11_build_27 : decode cX11_build 27 = .ok (.getfield 41, 3) := by decide +kernel
theorem dX11_build_30 : decode cX11_build 30 = .ok (.iload_n 2, 1) := by decide +kernel
theorem dX11_build_31 : decode cX11_build 31 = .ok (.iaload, 1) := by decide +kernel
theorem dX11_build_32 : decode cX11_build 32 = .ok (.iadd, 1) := by decide +kernel
theorem dX11_build_33 : decode cX11_build 33 = .ok (.iconst 0, 1) := by decide +kernel
theorem dX11_build_34 : decode cX11_build 34 = .ok (.ldc 96, 2) := by decide +kernel
theorem dX11_build_36 : decode cX11_build 36 = .ok (.invokestatic 97, 3) := by decide +kernel
theorem dX11_build_39 : decode cX11_build 39 = .ok (.iastore, 1) := by decide +kernel
theorem dX11_build_40 : decode cX11_build 40 = .ok (.iinc 2 1, 3) := by decide +kernel
theorem dX11_build_43 : decode cX11_build 43 = .ok (.goto (-36), 3) := by decide +kernel
theorem dX11_build_46 : decode cX11_build 46 = .ok (.aload_n 0, 1) := by decide +kernel
theorem dX11_build_47 : decode cX11_build 47 = .ok (.getfield 35, 3) := by decide +kernel
theorem dX11_build_50 : decode cX11_build 50 = .ok (.iload_n 1, 1) := by decide +kernel
theorem dX11_build_51 : decode cX11_build 51 = .ok (.aload_n 0, 1) := by decide +kernel
theorem dX11_build_52 : decode cX11_build 52 = .ok (.invokevirtual 119, 3) := by decide +kernel
theorem dX11_build_55 : decode cX11_build 55 = .ok (.iconst 1, 1) := by decide +kernel
theorem dX11_build_56 : decode cX11_build 56 = .ok (.iadd, 1) := by decide +kernel
theorem dX11_build_57 : decode cX11_build 57 = .ok (.iastore, 1) := by decide +kernel
theorem dX11_build_58 : decode cX11_build 58 = .ok (.return_, 1) := by decide +kernel
theorem dX11_owes_0 : decode cX11_owes 0 = .ok (.aload_n 0, 1) := by decide +kernel
theorem dX11_owes_1 : decode cX11_owes 1 = .ok (.getfield 13, 3) := by decide +kernel
theorem dX11_owes_4 : decode cX11_owes 4 = .ok (.iload_n 1, 1) := by decide +kernel
theorem dX11_owes_5 : decode cX11_owes 5 = .ok (.iaload, 1) := by decide +kernel
theorem dX11_owes_6 : decode cX11_owes 6 = .ok (.aload_n 0, 1) := by decide +kernel
theorem dX11_owes_7 : decode cX11_owes 7 = .ok (.getfield 13, 3) := by decide +kernel
theorem dX11_owes_10 : decode cX11_owes 10 = .ok (.iload_n 1, 1) := by decide +kernel
theorem dX11_owes_11 : decode cX11_owes 11 = .ok (.iaload, 1) := by decide +kernel
theorem dX11_owes_12 : decode cX11_owes 12 = .ok (.aload_n 0, 1) := by decide +kernel
theorem dX11_owes_13 : decode cX11_owes 13 = .ok (.getfield 22, 3) := by decide +kernel
theorem dX11_owes_16 : decode cX11_owes 16 = .ok (.imul, 1) := by decide +kernel
theorem dX11_owes_17 : decode cX11_owes 17 = .ok (.bipush 100, 2) := by decide +kernel
theorem dX11_owes_19 : decode cX11_owes 19 = .ok (.idiv, 1) := by decide +kernel
theorem dX11_owes_20 : decode cX11_owes 20 = .ok (.iadd, 1) := by decide +kernel
theorem dX11_owes_21 : decode cX11_owes 21 = .ok (.istore_n 2, 1) := by decide +kernel
theorem dX11_owes_22 : decode cX11_owes 22 = .ok (.iload_n 2, 1) := by decide +kernel
theorem dX11_owes_23 : decode cX11_owes 23 = .ok (.ldc 96, 2) := by decide +kernel
theorem dX11_owes_25 : decode cX11_owes 25 = .ok (.if_icmp .le 8, 3) := by decide +kernel
theorem dX11_owes_28 : decode cX11_owes 28 = .ok (.ldc 96, 2) := by decide +kernel
theorem dX11_owes_30 : decode cX11_owes 30 = .ok (.goto 4, 3) := by decide +kernel
theorem dX11_owes_33 : decode cX11_owes 33 = .ok (.iload_n 2, 1) := by decide +kernel
theorem dX11_owes_34 : decode cX11_owes 34 = .ok (.istore_n 2, 1) := by decide +kernel
theorem dX11_owes_35 : decode cX11_owes 35 = .ok (.aload_n 0, 1) := by decide +kernel
theorem dX11_owes_36 : decode cX11_owes 36 = .ok (.getfield 16, 3) := by decide +kernel
theorem dX11_owes_39 : decode cX11_owes 39 = .ok (.iload_n 1, 1) := by decide +kernel
theorem dX11_owes_40 : decode cX11_owes 40 = .ok (.iaload, 1) := by decide +kernel
theorem dX11_owes_41 : decode cX11_owes 41 = .ok (.aload_n 0, 1) := by decide +kernel
theorem dX11_owes_42 : decode cX11_owes 42 = .ok (.getfield 7, 3) := by decide +kernel
theorem dX11_owes_45 : decode cX11_owes 45 = .ok (.iload_n 1, 1) := by decide +kernel
theorem dX11_owes_46 : decode cX11_owes 46 = .ok (.iaload, 1) := by decide +kernel
theorem dX11_owes_47 : decode cX11_owes 47 = .ok (.imul, 1) := by decide +kernel
theorem dX11_owes_48 : decode cX11_owes 48 = .ok (.istore_n 3, 1) := by decide +kernel
theorem dX11_owes_49 : decode cX11_owes 49 = .ok (.iload_n 3, 1) := by decide +kernel
theorem dX11_owes_50 : decode cX11_owes 50 = .ok (.iload_n 2, 1) := by decide +kernel
theorem dX11_owes_51 : decode cX11_owes 51 = .ok (.if_icmp .le 7, 3) := by decide +kernel
theorem dX11_owes_54 : decode cX11_owes 54 = .ok (.iload_n 2, 1) := by decide +kernel
theorem dX11_owes_55 : decode cX11_owes 55 = .ok (.goto 4, 3) := by decide +kernel
theorem dX11_owes_58 : decode cX11_owes 58 = .ok (.iload_n 3, 1) := by decide +kernel
theorem dX11_owes_59 : decode cX11_owes 59 = .ok (.istore_n 3, 1) := by decide +kernel
theorem dX11_owes_60 : decode cX11_owes 60 = .ok (.aload_n 0, 1) := by decide +kernel
theorem dX11_owes_61 : decode cX11_owes 61 = .ok (.getfield 13, 3) := by decide +kernel
theorem dX11_owes_64 : decode cX11_owes 64 = .ok (.iload_n 1, 1) := by decide +kernel
theorem dX11_owes_65 : decode cX11_owes 65 = .ok (.iload_n 2, 1) := by decide +kernel
theorem dX11_owes_66 : decode cX11_owes 66 = .ok (.iload_n 3, 1) := by decide +kernel
theorem dX11_owes_67 : decode cX11_owes 67 = .ok (.isub, 1) := by decide +kernel
theorem dX11_owes_68 : decode cX11_owes 68 = .ok (.iastore, 1) := by decide +kernel
theorem dX11_owes_69 : decode cX11_owes 69 = .ok (.aload_n 0, 1) := by decide +kernel
theorem dX11_owes_70 : decode cX11_owes 70 = .ok (.getfield 47, 3) := by decide +kernel
theorem dX11_owes_73 : decode cX11_owes 73 = .ok (.iload_n 1, 1) := by decide +kernel
theorem dX11_owes_74 : decode cX11_owes 74 = .ok (.dup2, 1) := by decide +kernel
theorem dX11_owes_75 : decode cX11_owes 75 = .ok (.iaload, 1) := by decide +kernel
theorem dX11_owes_76 : decode cX11_owes 76 = .ok (.iload_n 3, 1) := by decide +kernel
theorem dX11_owes_77 : decode cX11_owes 77 = .ok (.iadd, 1) := by decide +kernel
theorem dX11_owes_78 : decode cX11_owes 78 = .ok (.iastore, 1) := by decide +kernel
theorem dX11_owes_79 : decode cX11_owes 79 = .ok (.return_, 1) := by decide +kernel
theorem dX11_yearOn_0 : decode cX11_yearOn 0 = .ok (.aload_n 0, 1) := by decide +kernel
theorem dX11_yearOn_1 : decode cX11_yearOn 1 = .ok (.dup, 1) := by decide +kernel
theorem dX11_yearOn_2 : decode cX11_yearOn 2 = .ok (.getfield 122, 3) := by decide +kernel
theorem dX11_yearOn_5 : decode cX11_yearOn 5 = .ok (.iconst 1, 1) := by decide +kernel
theorem dX11_yearOn_6 : decode cX11_yearOn 6 = .ok (.iadd, 1) := by decide +kernel
theorem dX11_yearOn_7 : decode cX11_yearOn 7 = .ok (.putfield 122, 3) := by decide +kernel
theorem dX11_yearOn_10 : decode cX11_yearOn 10 = .ok (.iconst 0, 1) := by decide +kernel
theorem dX11_yearOn_11 : decode cX11_yearOn 11 = .ok (.istore_n 1, 1) := by decide +kernel
theorem dX11_yearOn_12 : decode cX11_yearOn 12 = .ok (.iload_n 1, 1) := by decide +kernel
theorem dX11_yearOn_13 : decode cX11_yearOn 13 = .ok (.aload_n 0, 1) := by decide +kernel
theorem dX11_yearOn_14 : decode cX11_yearOn 14 = .ok (.getfield 86, 3) := by decide +kernel
theorem dX11_yearOn_17 : decode cX11_yearOn 17 = .ok (.if_icmp .ge 81, 3) := by decide +kernel
theorem dX11_yearOn_20 : decode cX11_yearOn 20 = .ok (.aload_n 0, 1) := by decide +kernel
theorem dX11_yearOn_21 : decode cX11_yearOn 21 = .ok (.iload_n 1, 1) := by decide +kernel
theorem dX11_yearOn_22 : decode cX11_yearOn 22 = .ok (.invokevirtual 125, 3) := by decide +kernel
theorem dX11_yearOn_25 : decode cX11_yearOn 25 = .ok (.aload_n 0, 1) := by decide +kernel
theorem dX11_yearOn_26 : decode cX11_yearOn 26 = .ok (.getfield 19, 3) := by decide +kernel
theorem dX11_yearOn_29 : decode cX11_yearOn 29 = .ok (.iload_n 1, 1) := by decide +kernel
theorem dX11_yearOn_30 : decode cX11_yearOn 30 = .ok (.iaload, 1) := by decide +kernel
theorem dX11_yearOn_31 : decode cX11_yearOn 31 = .ok (.ifCond .le 61, 3) := by decide +kernel
theorem dX11_yearOn_34 : decode cX11_yearOn 34 = .ok (.aload_n 0, 1) := by decide +kernel
theorem dX11_yearOn_35 : decode cX11_yearOn 35 = .ok (.getfield 122, 3) := by decide +kernel
theorem dX11_yearOn_38 : decode cX11_yearOn 38 = .ok (.aload_n 0, 1) := by decide +kernel
theorem dX11_yearOn_39 : decode cX11_yearOn 39 = .ok (.getfield 19, 3) := by decide +kernel
theorem dX11_yearOn_42 : decode cX11_yearOn 42 = .ok (.iload_n 1, 1) := by decide +kernel
theorem dX11_yearOn_43 : decode cX11_yearOn 43 = .ok (.iaload, 1) := by decide +kernel
theorem dX11_yearOn_44 : decode cX11_yearOn 44 = .ok (.irem, 1) := by decide +kernel
theorem dX11_yearOn_45 : decode cX11_yearOn 45 = .ok (.ifCond .ne 47, 3) := by decide +kernel
theorem dX11_yearOn_48 : decode cX11_yearOn 48 = .ok (.aload_n 0, 1) := by decide +kernel
theorem dX11_yearOn_49 : decode cX11_yearOn 49 = .ok (.getfield 7, 3) := by decide +kernel
theorem dX11_yearOn_52 : decode cX11_yearOn 52 = .ok (.iload_n 1, 1) := by decide +kernel
theorem dX11_yearOn_53 : decode cX11_yearOn 53 = .ok (.iaload, 1) := by decide +kernel
theorem dX11_yearOn_54 : decode cX11_yearOn 54 = .ok (.bipush 20, 2) := by decide +kernel
theorem dX11_yearOn_56 : decode cX11_yearOn 56 = .ok (.if_icmp .ge 36, 3) := by decide +kernel
theorem dX11_yearOn_59 : decode cX11_yearOn 59 = .ok (.aload_n 0, 1) := by decide +kernel
theorem dX11_yearOn_60 : decode cX11_yearOn 60 = .ok (.getfield 7, 3) := by decide +kernel
theorem dX11_yearOn_63 : decode cX11_yearOn 63 = .ok (.iload_n 1, 1) := by decide +kernel
theorem dX11_yearOn_64 : decode cX11_yearOn 64 = .ok (.dup2, 1) := by decide +kernel
theorem dX11_yearOn_65 : decode cX11_yearOn 65 = .ok (.iaload, 1) := by decide +kernel
theorem dX11_yearOn_66 : decode cX11_yearOn 66 = .ok (.iconst 1, 1) := by decide +kernel
theorem dX11_yearOn_67 : decode cX11_yearOn 67 = .ok (.iadd, 1) := by decide +kernel
theorem dX11_yearOn_68 : decode cX11_yearOn 68 = .ok (.iastore, 1) := by decide +kernel
theorem dX11_yearOn_69 : decode cX11_yearOn 69 = .ok (.aload_n 0, 1) := by decide +kernel
theorem dX11_yearOn_70 : decode cX11_yearOn 70 = .ok (.dup, 1) := by decide +kernel
theorem dX11_yearOn_71 : decode cX11_yearOn 71 = .ok (.getfield 128, 3) := by decide +kernel
theorem dX11_yearOn_74 : decode cX11_yearOn 74 = .ok (.aload_n 0, 1) := by decide +kernel
theorem dX11_yearOn_75 : decode cX11_yearOn 75 = .ok (.getfield 13, 3) := by decide +kernel
theorem dX11_yearOn_78 : decode cX11_yearOn 78 = .ok (.iload_n 1, 1) := by decide +kernel
theorem dX11_yearOn_79 : decode cX11_yearOn 79 = .ok (.iaload, 1) := by decide +kernel
theorem dX11_yearOn_80 : decode cX11_yearOn 80 = .ok (.ifCond .ne 7, 3) := by decide +kernel
theorem dX11_yearOn_83 : decode cX11_yearOn 83 = .ok (.iconst 1, 1) := by decide +kernel
theorem dX11_yearOn_84 : decode cX11_yearOn 84 = .ok (.goto 4, 3) := by decide +kernel
theorem dX11_yearOn_87 : decode cX11_yearOn 87 = .ok (.iconst 0, 1) := by decide +kernel
theorem dX11_yearOn_88 : decode cX11_yearOn 88 = .ok (.iadd, 1) := by decide +kernel
theorem dX11_yearOn_89 : decode cX11_yearOn 89 = .ok (.putfield 128, 3) := by decide +kernel
theorem dX11_yearOn_92 : decode cX11_yearOn 92 = .ok (.iinc 1 1, 3) := by decide +kernel
theorem dX11_yearOn_95 : decode cX11_yearOn 95 = .ok (.goto (-83), 3) := by decide +kernel
theorem dX11_yearOn_98 : decode cX11_yearOn 98 = .ok (.return_, 1) := by decide +kernel
theorem dX11_goYears_0 : decode cX11_goYears 0 = .ok (.aload_n 0, 1) := by decide +kernel
theorem dX11_goYears_1 : decode cX11_goYears 1 = .ok (.iconst 0, 1) := by decide +kernel
theorem dX11_goYears_2 : decode cX11_goYears 2 = .ok (.putfield 128, 3) := by decide +kernel
theorem dX11_goYears_5 : decode cX11_goYears 5 = .ok (.iconst 0, 1) := by decide +kernel
theorem dX11_goYears_6 : decode cX11_goYears 6 = .ok (.istore_n 2, 1) := by decide +kernel
theorem dX11_goYears_7 : decode cX11_goYears 7 = .ok (.iload_n 2, 1) := by decide +kernel
theorem dX11_goYears_8 : decode cX11_goYears 8 = .ok (.iconst 5, 1) := by decide +kernel
theorem dX11_goYears_9 : decode cX11_goYears 9 = .ok (.if_icmp .ge 16, 3) := by decide +kernel
theorem dX11_goYears_12 : decode cX11_goYears 12 = .ok (.aload_n 0, 1) := by decide +kernel
theorem dX11_goYears_13 : decode cX11_goYears 13 = .ok (.getfield 47, 3) := by decide +kernel
theorem dX11_goYears_16 : decode cX11_goYears 16 = .ok (.iload_n 2, 1) := by decide +kernel
theorem dX11_goYears_17 : decode cX11_goYears 17 = .ok (.iconst 0, 1) := by decide +kernel
theorem dX11_goYears_18 : decode cX11_goYears 18 = .ok (.iastore, 1) := by decide +kernel
theorem dX11_goYears_19 : decode cX11_goYears 19 = .ok (.iinc 2 1, 3) := by decide +kernel
theorem dX11_goYears_22 : decode cX11_goYears 22 = .ok (.goto (-15), 3) := by decide +kernel
theorem dX11_goYears_25 : decode cX11_goYears 25 = .ok (.iconst 0, 1) := by decide +kernel
theorem dX11_goYears_26 : decode cX11_goYears 26 = .ok (.istore_n 2, 1) := by decide +kernel
theorem dX11_goYears_27 : decode cX11_goYears 27 = .ok (.iload_n 2, 1) := by decide +kernel
theorem dX11_goYears_28 : decode cX11_goYears 28 = .ok (.iload_n 1, 1) := by decide +kernel
theorem dX11_goYears_29 : decode cX11_goYears 29 = .ok (.if_icmp .ge 13, 3) := by decide +kernel
theorem dX11_goYears_32 : decode cX11_goYears 32 = .ok (.aload_n 0, 1) := by decide +kernel
