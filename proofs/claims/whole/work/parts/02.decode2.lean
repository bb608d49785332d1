theorem dX11_goYears_33 : decode cX11_goYears 33 = .ok (.invokevirtual 131, 3) := by decide +kernel
theorem dX11_goYears_36 : decode cX11_goYears 36 = .ok (.iinc 2 1, 3) := by decide +kernel
theorem dX11_goYears_39 : decode cX11_goYears 39 = .ok (.goto (-12), 3) := by decide +kernel
theorem dX11_goYears_42 : decode cX11_goYears 42 = .ok (.return_, 1) := by decide +kernel
theorem dX11_feed_0 : decode cX11_feed 0 = .ok (.aload_n 0, 1) := by decide +kernel
theorem dX11_feed_1 : decode cX11_feed 1 = .ok (.iconst 0, 1) := by decide +kernel
theorem dX11_feed_2 : decode cX11_feed 2 = .ok (.putfield 83, 3) := by decide +kernel
theorem dX11_feed_5 : decode cX11_feed 5 = .ok (.iload_n 1, 1) := by decide +kernel
theorem dX11_feed_6 : decode cX11_feed 6 = .ok (.ifCond .ge 10, 3) := by decide +kernel
theorem dX11_feed_9 : decode cX11_feed 9 = .ok (.aload_n 0, 1) := by decide +kernel
theorem dX11_feed_10 : decode cX11_feed 10 = .ok (.bipush (-4), 2) := by decide +kernel
theorem dX11_feed_12 : decode cX11_feed 12 = .ok (.invokevirtual 134, 3) := by decide +kernel
theorem dX11_feed_15 : decode cX11_feed 15 = .ok (.ireturn, 1) := by decide +kernel
theorem dX11_feed_16 : decode cX11_feed 16 = .ok (.iload_n 1, 1) := by decide +kernel
theorem dX11_feed_17 : decode cX11_feed 17 = .ok (.sipush 255, 3) := by decide +kernel
theorem dX11_feed_20 : decode cX11_feed 20 = .ok (.if_icmp .gt 12, 3) := by decide +kernel
theorem dX11_feed_23 : decode cX11_feed 23 = .ok (.aload_n 0, 1) := by decide +kernel
theorem dX11_feed_24 : decode cX11_feed 24 = .ok (.getfield 137, 3) := by decide +kernel
theorem dX11_feed_27 : decode cX11_feed 27 = .ok (.bipush 96, 2) := by decide +kernel
theorem dX11_feed_29 : decode cX11_feed 29 = .ok (.if_icmp .ne 10, 3) := by decide +kernel
theorem dX11_feed_32 : decode cX11_feed 32 = .ok (.aload_n 0, 1) := by decide +kernel
theorem dX11_feed_33 : decode cX11_feed 33 = .ok (.bipush (-6), 2) := by decide +kernel
theorem dX11_feed_35 : decode cX11_feed 35 = .ok (.invokevirtual 134, 3) := by decide +kernel
theorem dX11_feed_38 : decode cX11_feed 38 = .ok (.ireturn, 1) := by decide +kernel
theorem dX11_feed_39 : decode cX11_feed 39 = .ok (.aload_n 0, 1) := by decide +kernel
theorem dX11_feed_40 : decode cX11_feed 40 = .ok (.getfield 50, 3) := by decide +kernel
theorem dX11_feed_43 : decode cX11_feed 43 = .ok (.aload_n 0, 1) := by decide +kernel
theorem dX11_feed_44 : decode cX11_feed 44 = .ok (.getfield 137, 3) := by decide +kernel
theorem dX11_feed_47 : decode cX11_feed 47 = .ok (.iload_n 1, 1) := by decide +kernel
theorem dX11_feed_48 : decode cX11_feed 48 = .ok (.iastore, 1) := by decide +kernel
theorem dX11_feed_49 : decode cX11_feed 49 = .ok (.aload_n 0, 1) := by decide +kernel
theorem dX11_feed_50 : decode cX11_feed 50 = .ok (.dup, 1) := by decide +kernel
theorem dX11_feed_51 : decode cX11_feed 51 = .ok (.getfield 137, 3) := by decide +kernel
theorem dX11_feed_54 : decode cX11_feed 54 = .ok (.iconst 1, 1) := by decide +kernel
theorem dX11_feed_55 : decode cX11_feed 55 = .ok (.iadd, 1) := by decide +kernel
theorem dX11_feed_56 : decode cX11_feed 56 = .ok (.putfield 137, 3) := by decide +kernel
theorem dX11_feed_59 : decode cX11_feed 59 = .ok (.aload_n 0, 1) := by decide +kernel
theorem dX11_feed_60 : decode cX11_feed 60 = .ok (.getfield 137, 3) := by decide +kernel
theorem dX11_feed_63 : decode cX11_feed 63 = .ok (.ireturn, 1) := by decide +kernel
theorem dX11_here_0 : decode cX11_here 0 = .ok (.aload_n 0, 1) := by decide +kernel
theorem dX11_here_1 : decode cX11_here 1 = .ok (.getfield 140, 3) := by decide +kernel
theorem dX11_here_4 : decode cX11_here 4 = .ok (.aload_n 0, 1) := by decide +kernel
theorem dX11_here_5 : decode cX11_here 5 = .ok (.getfield 137, 3) := by decide +kernel
theorem dX11_here_8 : decode cX11_here 8 = .ok (.if_icmp .ge 15, 3) := by decide +kernel
theorem dX11_here_11 : decode cX11_here 11 = .ok (.aload_n 0, 1) := by decide +kernel
theorem dX11_here_12 : decode cX11_here 12 = .ok (.getfield 50, 3) := by decide +kernel
theorem dX11_here_15 : decode cX11_here 15 = .ok (.aload_n 0, 1) := by decide +kernel
theorem dX11_here_16 : decode cX11_here 16 = .ok (.getfield 140, 3) := by decide +kernel
theorem dX11_here_19 : decode cX11_here 19 = .ok (.iaload, 1) := by decide +kernel
theorem dX11_here_20 : decode cX11_here 20 = .ok (.goto 4, 3) := by decide +kernel
theorem dX11_here_23 : decode cX11_here 23 = .ok (.iconst (-1), 1) := by decide +kernel
theorem dX11_here_24 : decode cX11_here 24 = .ok (.ireturn, 1) := by decide +kernel
theorem dX11_readDigits_0 : decode cX11_readDigits 0 = .ok (.iconst 0, 1) := by decide +kernel
theorem dX11_readDigits_1 : decode cX11_readDigits 1 = .ok (.istore_n 2, 1) := by decide +kernel
theorem dX11_readDigits_2 : decode cX11_readDigits 2 = .ok (.iconst 0, 1) := by decide +kernel
theorem dX11_readDigits_3 : decode cX11_readDigits 3 = .ok (.istore_n 3, 1) := by decide +kernel
theorem dX11_readDigits_4 : decode cX11_readDigits 4 = .ok (.iload_n 3, 1) := by decide +kernel
theorem dX11_readDigits_5 : decode cX11_readDigits 5 = .ok (.iload_n 1, 1) := by decide +kernel
theorem dX11_readDigits_6 : decode cX11_readDigits 6 = .ok (.if_icmp .ge 92, 3) := by decide +kernel
theorem dX11_readDigits_9 : decode cX11_readDigits 9 = .ok (.aload_n 0, 1) := by decide +kernel
theorem dX11_readDigits_10 : decode cX11_readDigits 10 = .ok (.aload_n 0, 1) := by decide +kernel
theorem dX11_readDigits_11 : decode cX11_readDigits 11 = .ok (.getfield 143, 3) := by decide +kernel
theorem dX11_readDigits_14 : decode cX11_readDigits 14 = .ok (.ifCond .ne 20, 3) := by decide +kernel
theorem dX11_readDigits_17 : decode cX11_readDigits 17 = .ok (.aload_n 0, 1) := by decide +kernel
theorem dX11_readDigits_18 : decode cX11_readDigits 18 = .ok (.invokevirtual 147, 3) := by decide +kernel
theorem dX11_readDigits_21 : decode cX11_readDigits 21 = .ok (.i2l, 1) := by decide +kernel
theorem dX11_readDigits_22 : decode cX11_readDigits 22 = .ok (.ldc2_w 150, 3) := by decide +kernel
theorem dX11_readDigits_25 : decode cX11_readDigits 25 = .ok (.ldc2_w 152, 3) := by decide +kernel
theorem dX11_readDigits_28 : decode cX11_readDigits 28 = .ok (.invokestatic 89, 3) := by decide +kernel
theorem dX11_readDigits_31 : decode cX11_readDigits 31 = .ok (.ifCond .ne 7, 3) := by decide +kernel
theorem dX11_readDigits_34 : decode cX11_readDigits 34 = .ok (.iconst 1, 1) := by decide +kernel
theorem dX11_readDigits_35 : decode cX11_readDigits 35 = .ok (.goto 4, 3) := by decide +kernel
theorem dX11_readDigits_38 : decode cX11_readDigits 38 = .ok (.iconst 0, 1) := by decide +kernel
theorem dX11_readDigits_39 : decode cX11_readDigits 39 = .ok (.putfield 143, 3) := by decide +kernel
theorem dX11_readDigits_42 : decode cX11_readDigits 42 = .ok (.aload_n 0, 1) := by decide +kernel
theorem dX11_readDigits_43 : decode cX11_readDigits 43 = .ok (.getfield 143, 3) := by decide +kernel
theorem dX11_readDigits_46 : decode cX11_readDigits 46 = .ok (.ifCond .eq 7, 3) := by decide +kernel
theorem dX11_readDigits_49 : decode cX11_readDigits 49 = .ok (.iconst 0, 1) := by decide +kernel
theorem dX11_readDigits_50 : decode cX11_readDigits 50 = .ok (.goto 20, 3) := by decide +kernel
theorem dX11_readDigits_53 : decode cX11_readDigits 53 = .ok (.bipush 10, 2) := by decide +kernel
theorem dX11_readDigits_55 : decode cX11_readDigits 55 = .ok (.iload_n 2, 1) := by decide +kernel
theorem dX11_readDigits_56 : decode cX11_readDigits 56 = .ok (.imul, 1) := by decide +kernel
theorem dX11_readDigits_57 : decode cX11_readDigits 57 = .ok (.aload_n 0, 1) := by decide +kernel
theorem dX11_readDigits_58 : decode cX11_readDigits 58 = .ok (.getfield 50, 3) := by decide +kernel
theorem dX11_readDigits_61 : decode cX11_readDigits 61 = .ok (.aload_n 0, 1) := by decide +kernel
theorem dX11_readDigits_62 : decode cX11_readDigits 62 = .ok (.getfield 140, 3) := by decide +kernel
theorem dX11_readDigits_65 : decode cX11_readDigits 65 = .ok (.iaload, 1) := by decide +kernel
theorem dX11_readDigits_66 : decode cX11_readDigits 66 = .ok (.iadd, 1) := by decide +kernel
theorem dX11_readDigits_67 : decode cX11_readDigits 67 = .ok (.bipush 48, 2) := by decide +kernel
theorem dX11_readDigits_69 : decode cX11_readDigits 69 = .ok (.isub, 1) := by decide +kernel
theorem dX11_readDigits_70 : decode cX11_readDigits 70 = .ok (.istore_n 2, 1) := by decide +kernel
theorem dX11_readDigits_71 : decode cX11_readDigits 71 = .ok (.aload_n 0, 1) := by decide +kernel
theorem dX11_readDigits_72 : decode cX11_readDigits 72 = .ok (.dup, 1) := by decide +kernel
theorem dX11_readDigits_73 : decode cX11_readDigits 73 = .ok (.getfield 140, 3) := by decide +kernel
theorem dX11_readDigits_76 : decode cX11_readDigits 76 = .ok (.aload_n 0, 1) := by decide +kernel
theorem dX11_readDigits_77 : decode cX11_readDigits 77 = .ok (.getfield 143, 3) := by decide +kernel
theorem dX11_readDigits_80 : decode cX11_readDigits 80 = .ok (.ifCond .eq 7, 3) := by decide +kernel
theorem dX11_readDigits_83 : decode cX11_readDigits 83 = .ok (.iconst 0, 1) := by decide +kernel
theorem dX11_readDigits_84 : decode cX11_readDigits 84 = .ok (.goto 4, 3) := by decide +kernel
theorem dX11_readDigits_87 : decode cX11_readDigits 87 = .ok (.iconst 1, 1) := by decide +kernel
theorem dX11_readDigits_88 : decode cX11_readDigits 88 = .ok (.iadd, 1) := by decide +kernel
theorem dX11_readDigits_89 : decode cX11_readDigits 89 = .ok (.putfield 140, 3) := by decide +kernel
theorem dX11_readDigits_92 : decode cX11_readDigits 92 = .ok (.iinc 3 1, 3) := by decide +kernel
theorem dX11_readDigits_95 : decode cX11_readDigits 95 = .ok (.goto (-91), 3) := by decide +kernel
theorem dX11_readDigits_98 : decode cX11_readDigits 98 = .ok (.iload_n 2, 1) := by decide +kernel
theorem dX11_readDigits_99 : decode cX11_readDigits 99 = .ok (.ireturn, 1) := by decide +kernel
theorem dX11_isLetter_0 : decode cX11_isLetter 0 = .ok (.iload_n 0, 1) := by decide +kernel
theorem dX11_isLetter_1 : decode cX11_isLetter 1 = .ok (.bipush 102, 2) := by decide +kernel
theorem dX11_isLetter_3 : decode cX11_isLetter 3 = .ok (.if_icmp .eq 33, 3) := by decide +kernel
theorem dX11_isLetter_6 : decode cX11_isLetter 6 = .ok (.iload_n 0, 1) := by decide +kernel
theorem dX11_isLetter_7 : decode cX11_isLetter 7 = .ok (.bipush 119, 2) := by decide +kernel
theorem dX11_isLetter_9 : decode cX11_isLetter 9 = .ok (.if_icmp .eq 27, 3) := by decide +kernel
theorem dX11_isLetter_12 : decode cX11_isLetter 12 = .ok (.iload_n 0, 1) := by decide +kernel
theorem dX11_isLetter_13 : decode cX11_isLetter 13 = .ok (.bipush 98, 2) := by decide +kernel
theorem dX11_isLetter_15 : decode cX11_isLetter 15 = .ok (.if_icmp .eq 21, 3) := by decide +kernel
theorem dX11_isLetter_18 : decode cX11_isLetter 18 = .ok (.iload_n 0, 1) := by decide +kernel
theorem dX11_isLetter_19 : decode cX11_isLetter 19 = .ok (.bipush 114, 2) := by decide +kernel
theorem dX11_isLetter_21 : decode cX11_isLetter 21 = .ok (.if_icmp .eq 15, 3) := by decide +kernel
theorem dX11_isLetter_24 : decode cX11_isLetter 24 = .ok (.iload_n 0, 1) := by decide +kernel
theorem dX11_isLetter_25 : decode cX11_isLetter 25 = .ok (.bipush 121, 2) := by decide +kernel
theorem dX11_isLetter_27 : decode cX11_isLetter 27 = .ok (.if_icmp .eq 9, 3) := by decide +kernel
theorem dX11_isLetter_30 : decode cX11_isLetter 30 = .ok (.iload_n 0, 1) := by decide +kernel
theorem dX11_isLetter_31 : decode cX11_isLetter 31 = .ok (.bipush 100, 2) := by decide +kernel
theorem dX11_isLetter_33 : decode cX11_isLetter 33 = .ok (.if_icmp .ne 7, 3) := by decide +kernel
theorem dX11_isLetter_36 : decode cX11_isLetter 36 = .ok (.iconst 1, 1) := by decide +kernel
theorem dX11_isLetter_37 : decode cX11_isLetter 37 = .ok (.goto 4, 3) := by decide +kernel
theorem dX11_isLetter_40 : decode cX11_isLetter 40 = .ok (.iconst 0, 1) := by decide +kernel
theorem dX11_isLetter_41 : decode cX11_isLetter 41 = .ok (.ireturn, 1) := by decide +kernel
theorem dX11_readNumbers_0 : decode cX11_readNumbers 0 = .ok (.iload_n 1, 1) := by decide +kernel
theorem dX11_readNumbers_1 : decode cX11_readNumbers 1 = .ok (.lookupswitch 164 #[(98, 150), (100, 123), (102, 43), (119, 83)], 43) := by decide +kernel
theorem dX11_readNumbers_44 : decode cX11_readNumbers 44 = .ok (.aload_n 0, 1) := by decide +kernel
theorem dX11_readNumbers_45 : decode cX11_readNumbers 45 = .ok (.getfield 59, 3) := by decide +kernel
theorem dX11_readNumbers_48 : decode cX11_readNumbers 48 = .ok (.iload_n 2, 1) := by decide +kernel
theorem dX11_readNumbers_49 : decode cX11_readNumbers 49 = .ok (.aload_n 0, 1) := by decide +kernel
theorem dX11_readNumbers_50 : decode cX11_readNumbers 50 = .ok (.iconst 2, 1) := by decide +kernel
theorem dX11_readNumbers_51 : decode cX11_readNumbers 51 = .ok (.invokevirtual 154, 3) := by decide +kernel
theorem dX11_readNumbers_54 : decode cX11_readNumbers 54 = .ok (.iastore, 1) := by decide +kernel
theorem dX11_readNumbers_55 : decode cX11_readNumbers 55 = .ok (.aload_n 0, 1) := by decide +kernel
theorem dX11_readNumbers_56 : decode cX11_readNumbers 56 = .ok (.getfield 59, 3) := by decide +kernel
theorem dX11_readNumbers_59 : decode cX11_readNumbers 59 = .ok (.iload_n 2, 1) := by decide +kernel
theorem dX11_readNumbers_60 : decode cX11_readNumbers 60 = .ok (.iconst 1, 1) := by decide +kernel
theorem dX11_readNumbers_61 : decode cX11_readNumbers 61 = .ok (.iadd, 1) := by decide +kernel
theorem dX11_readNumbers_62 : decode cX11_readNumbers 62 = .ok (.aload_n 0, 1) := by decide +kernel
theorem dX11_readNumbers_63 : decode cX11_readNumbers 63 = .ok (.iconst 1, 1) := by decide +kernel
theorem dX11_readNumbers_64 : decode cX11_readNumbers 64 = .ok (.invokevirtual 154, 3) := by decide +kernel
theorem dX11_readNumbers_67 : decode cX11_readNumbers 67 = .ok (.iastore, 1) := by decide +kernel
theorem dX11_readNumbers_68 : decode cX11_readNumbers 68 = .ok (.aload_n 0, 1) := by decide +kernel
theorem dX11_readNumbers_69 : decode cX11_readNumbers 69 = .ok (.getfield 59, 3) := by decide +kernel
theorem dX11_readNumbers_72 : decode cX11_readNumbers 72 = .ok (.iload_n 2, 1) := by decide +kernel
theorem dX11_readNumbers_73 : decode cX11_readNumbers 73 = .ok (.iconst 2, 1) := by decide +kernel
theorem dX11_readNumbers_74 : decode cX11_readNumbers 74 = .ok (.iadd, 1) := by decide +kernel
theorem dX11_readNumbers_75 : decode cX11_readNumbers 75 = .ok (.aload_n 0, 1) := by decide +kernel
theorem dX11_readNumbers_76 : decode cX11_readNumbers 76 = .ok (.iconst 1, 1) := by decide +kernel
theorem dX11_readNumbers_77 : decode cX11_readNumbers 77 = .ok (.invokevirtual 154, 3) := by decide +kernel
theorem dX11_readNumbers_80 : decode cX11_readNumbers 80 = .ok (.iastore, 1) := by decide +kernel
theorem dX11_readNumbers_81 : decode cX11_readNumbers 81 = .ok (.goto 95, 3) := by decide +kernel
theorem dX11_readNumbers_84 : decode cX11_readNumbers 84 = .ok (.aload_n 0, 1) := by decide +kernel
theorem dX11_readNumbers_85 : decode cX11_readNumbers 85 = .ok (.getfield 59, 3) := by decide +kernel
theorem dX11_readNumbers_88 : decode cX11_readNumbers 88 = .ok (.iload_n 2, 1) := by decide +kernel
theorem dX11_readNumbers_89 : decode cX11_readNumbers 89 = .ok (.aload_n 0, 1) := by decide +kernel
theorem dX11_readNumbers_90 : decode cX11_readNumbers 90 = .ok (.iconst 1, 1) := by decide +kernel
theorem dX11_readNumbers_91 : decode cX11_readNumbers 91 = .ok (.invokevirtual 154, 3) := by decide +kernel
theorem dX11_readNumbers_94 : decode cX11_readNumbers 94 = .ok (.iastore, 1) := by decide +kernel
theorem dX11_readNumbers_95 : decode cX11_readNumbers 95 = .ok (.aload_n 0, 1) := by decide +kernel
theorem dX11_readNumbers_96 : decode cX11_readNumbers 96 = .ok (.getfield 59, 3) := by decide +kernel
theorem dX11_readNumbers_99 : decode cX11_readNumbers 99 = .ok (.iload_n 2, 1) := by decide +kernel
theorem dX11_readNumbers_100 : decode cX11_readNumbers 100 = .ok (.iconst 1, 1) := by decide +kernel
theorem dX11_readNumbers_101 : decode cX11_readNumbers 101 = .ok (.iadd, 1) := by decide +kernel
theorem dX11_readNumbers_102 : decode cX11_readNumbers 102 = .ok (.aload_n 0, 1) := by decide +kernel
theorem dX11_readNumbers_103 : decode cX11_readNumbers 103 = .ok (.iconst 1, 1) := by decide +kernel
theorem dX11_readNumbers_104 : decode cX11_readNumbers 104 = .ok (.invokevirtual 154, 3) := by decide +kernel
theorem dX11_readNumbers_107 : decode cX11_readNumbers 107 = .ok (.iastore, 1) := by decide +kernel
theorem dX11_readNumbers_108 : decode cX11_readNumbers 108 = .ok (.aload_n 0, 1) := by decide +kernel
theorem dX11_readNumbers_109 : decode cX11_readNumbers 109 = .ok (.getfield 59, 3) := by decide +kernel
theorem dX11_readNumbers_112 : decode cX11_readNumbers 112 = .ok (.iload_n 2, 1) := by decide +kernel
theorem dX11_readNumbers_113 : decode cX11_readNumbers 113 = .ok (.iconst 2, 1) := by decide +kernel
theorem dX11_readNumbers_114 : decode cX11_readNumbers 114 = .ok (.iadd, 1) := by decide +kernel
theorem dX11_readNumbers_115 : decode cX11_readNumbers 115 = .ok (.aload_n 0, 1) := by decide +kernel
theorem dX11_readNumbers_116 : decode cX11_readNumbers 116 = .ok (.iconst 3, 1) := by decide +kernel
theorem dX11_readNumbers_117 : decode cX11_readNumbers 117 = .ok (.invokevirtual 154, 3) := by decide +kernel
theorem dX11_readNumbers_120 : decode cX11_readNumbers 120 = .ok (.iastore, 1) := by decide +kernel
theorem dX11_readNumbers_121 : decode cX11_readNumbers 121 = .ok (.goto 55, 3) := by decide +kernel
theorem dX11_readNumbers_124 : decode cX11_readNumbers 124 = .ok (.aload_n 0, 1) := by decide +kernel
theorem dX11_readNumbers_125 : decode cX11_readNumbers 125 = .ok (.getfield 59, 3) := by decide +kernel
theorem dX11_readNumbers_128 : decode cX11_readNumbers 128 = .ok (.iload_n 2, 1) := by decide +kernel
theorem dX11_readNumbers_129 : decode cX11_readNumbers 129 = .ok (.aload_n 0, 1) := by decide +kernel
theorem dX11_readNumbers_130 : decode cX11_readNumbers 130 = .ok (.iconst 1, 1) := by decide +kernel
theorem dX11_readNumbers_131 : decode cX11_readNumbers 131 = .ok (.invokevirtual 154, 3) := by decide +kernel
theorem dX11_readNumbers_134 : decode cX11_readNumbers 134 = .ok (.iastore, 1) := by decide +kernel
theorem dX11_readNumbers_135 : decode cX11_readNumbers 135 = .ok (.aload_n 0, 1) := by decide +kernel
theorem dX11_readNumbers_136 : decode cX11_readNumbers 136 = .ok (.getfield 59, 3) := by decide +kernel
theorem dX11_readNumbers_139 : decode cX11_readNumbers 139 = .ok (.iload_n 2, 1) := by decide +kernel
theorem dX11_readNumbers_140 : decode cX11_readNumbers 140 = .ok (.iconst 1, 1) := by decide +kernel
theorem dX11_readNumbers_141 : decode cX11_readNumbers 141 = .ok (.iadd, 1) := by decide +kernel
theorem dX11_readNumbers_142 : decode cX11_readNumbers 142 = .ok (.aload_n 0, 1) := by decide +kernel
theorem dX11_readNumbers_143 : decode cX11_readNumbers 143 = .ok (.iconst 5, 1) := by decide +kernel
theorem dX11_readNumbers_144 : decode cX11_readNumbers 144 = .ok (.invokevirtual 154, 3) := by decide +kernel
theorem dX11_readNumbers_147 : decode cX11_readNumbers 147 = .ok (.iastore, 1) := by decide +kernel
theorem dX11_readNumbers_148 : decode cX11_readNumbers 148 = .ok (.goto 28, 3) := by decide +kernel
theorem dX11_readNumbers_151 : decode cX11_readNumbers 151 = .ok (.aload_n 0, 1) := by decide +kernel
theorem dX11_readNumbers_152 : decode cX11_readNumbers 152 = .ok (.getfield 59, 3) := by decide +kernel
theorem dX11_readNumbers_155 : decode cX11_readNumbers 155 = .ok (.iload_n 2, 1) := by decide +kernel
theorem dX11_readNumbers_156 : decode cX11_readNumbers 156 = .ok (.aload_n 0, 1) := by decide +kernel
theorem dX11_readNumbers_157 : decode cX11_readNumbers 157 = .ok (.iconst 1, 1) := by decide +kernel
theorem dX11_readNumbers_158 : decode cX11_readNumbers 158 = .ok (.invokevirtual 154, 3) := by decide +kernel
theorem dX11_readNumbers_161 : decode cX11_readNumbers 161 = .ok (.iastore, 1) := by decide +kernel
theorem dX11_readNumbers_162 : decode cX11_readNumbers 162 = .ok (.goto 14, 3) := by decide +kernel
theorem dX11_readNumbers_165 : decode cX11_readNumbers 165 = .ok (.aload_n 0, 1) := by decide +kernel
theorem dX11_readNumbers_166 : decode cX11_readNumbers 166 = .ok (.getfield 59, 3) := by decide +kernel
theorem dX11_readNumbers_169 : decode cX11_readNumbers 169 = .ok (.iload_n 2, 1) := by decide +kernel
theorem dX11_readNumbers_170 : decode cX11_readNumbers 170 = .ok (.aload_n 0, 1) := by decide +kernel
theorem dX11_readNumbers_171 : decode cX11_readNumbers 171 = .ok (.iconst 2, 1) := by decide +kernel
theorem dX11_readNumbers_172 : decode cX11_readNumbers 172 = .ok (.invokevirtual 154, 3) := by decide +kernel
theorem dX11_readNumbers_175 : decode cX11_readNumbers 175 = .ok (.iastore, 1) := by decide +kernel
theorem dX11_readNumbers_176 : decode cX11_readNumbers 176 = .ok (.return_, 1) := by decide +kernel
theorem dX11_readStatement_0 : decode cX11_readStatement 0 = .ok (.aload_n 0, 1) := by decide +kernel
theorem dX11_readStatement_1 : decode cX11_readStatement 1 = .ok (.getfield 157, 3) := by decide +kernel
theorem dX11_readStatement_4 : decode cX11_readStatement 4 = .ok (.istore_n 1, 1) := by decide +kernel
theorem dX11_readStatement_5 : decode cX11_readStatement 5 = .ok (.aload_n 0, 1) := by decide +kernel
theorem dX11_readStatement_6 : decode cX11_readStatement 6 = .ok (.invokevirtual 147, 3) := by decide +kernel
theorem dX11_readStatement_9 : decode cX11_readStatement 9 = .ok (.istore_n 2, 1) := by decide +kernel
theorem dX11_readStatement_10 : decode cX11_readStatement 10 = .ok (.aload_n 0, 1) := by decide +kernel
theorem dX11_readStatement_11 : decode cX11_readStatement 11 = .ok (.getfield 53, 3) := by decide +kernel
theorem dX11_readStatement_14 : decode cX11_readStatement 14 = .ok (.iload_n 1, 1) := by decide +kernel
theorem dX11_readStatement_15 : decode cX11_readStatement 15 = .ok (.aload_n 0, 1) := by decide +kernel
theorem dX11_readStatement_16 : decode cX11_readStatement 16 = .ok (.getfield 140, 3) := by decide +kernel
theorem dX11_readStatement_19 : decode cX11_readStatement 19 = .ok (.iastore, 1) := by decide +kernel
theorem dX11_readStatement_20 : decode cX11_readStatement 20 = .ok (.aload_n 0, 1) := by decide +kernel
theorem dX11_readStatement_21 : decode cX11_readStatement 21 = .ok (.getfield 56, 3) := by decide +kernel
theorem dX11_readStatement_24 : decode cX11_readStatement 24 = .ok (.iload_n 1, 1) := by decide +kernel
theorem dX11_readStatement_25 : decode cX11_readStatement 25 = .ok (.iload_n 2, 1) := by decide +kernel
theorem dX11_readStatement_26 : decode cX11_readStatement 26 = .ok (.iastore, 1) := by decide +kernel
theorem dX11_readStatement_27 : decode cX11_readStatement 27 = .ok (.aload_n 0, 1) := by decide +kernel
theorem dX11_readStatement_28 : decode cX11_readStatement 28 = .ok (.aload_n 0, 1) := by decide +kernel
theorem dX11_readStatement_29 : decode cX11_readStatement 29 = .ok (.getfield 143, 3) := by decide +kernel
theorem dX11_readStatement_32 : decode cX11_readStatement 32 = .ok (.ifCond .ne 10, 3) := by decide +kernel
theorem dX11_readStatement_35 : decode cX11_readStatement 35 = .ok (.iload_n 2, 1) := by decide +kernel
theorem dX11_readStatement_36 : decode cX11_readStatement 36 = .ok (.invokestatic 160, 3) := by decide +kernel
theorem dX11_readStatement_39 : decode cX11_readStatement 39 = .ok (.ifCond .ne 7, 3) := by decide +kernel
theorem dX11_readStatement_42 : decode cX11_readStatement 42 = .ok (.iconst 1, 1) := by decide +kernel
theorem dX11_readStatement_43 : decode cX11_readStatement 43 = .ok (.goto 4, 3) := by decide +kernel
theorem dX11_readStatement_46 : decode cX11_readStatement 46 = .ok (.iconst 0, 1) := by decide +kernel
theorem dX11_readStatement_47 : decode cX11_readStatement 47 = .ok (.putfield 143, 3) := by decide +kernel
theorem dX11_readStatement_50 : decode cX11_readStatement 50 = .ok (.aload_n 0, 1) := by decide +kernel
theorem dX11_readStatement_51 : decode cX11_readStatement 51 = .ok (.dup, 1) := by decide +kernel
theorem dX11_readStatement_52 : decode cX11_readStatement 52 = .ok (.getfield 140, 3) := by decide +kernel
theorem dX11_readStatement_55 : decode cX11_readStatement 55 = .ok (.aload_n 0, 1) := by decide +kernel
theorem dX11_readStatement_56 : decode cX11_readStatement 56 = .ok (.getfield 143, 3) := by decide +kernel
theorem dX11_readStatement_59 : decode cX11_readStatement 59 = .ok (.ifCond .eq 7, 3) := by decide +kernel
theorem dX11_readStatement_62 : decode cX11_readStatement 62 = .ok (.iconst 0, 1) := by decide +kernel
theorem dX11_readStatement_63 : decode cX11_readStatement 63 = .ok (.goto 4, 3) := by decide +kernel
theorem dX11_readStatement_66 : decode cX11_readStatement 66 = .ok (.iconst 1, 1) := by decide +kernel
theorem dX11_readStatement_67 : decode cX11_readStatement 67 = .ok (.iadd, 1) := by decide +kernel
theorem dX11_readStatement_68 : decode cX11_readStatement 68 = .ok (.putfield 140, 3) := by decide +kernel
theorem dX11_readStatement_71 : decode cX11_readStatement 71 = .ok (.aload_n 0, 1) := by decide +kernel
theorem dX11_readStatement_72 : decode cX11_readStatement 72 = .ok (.getfield 143, 3) := by decide +kernel
theorem dX11_readStatement_75 : decode cX11_readStatement 75 = .ok (.ifCond .ne 11, 3) := by decide +kernel
theorem dX11_readStatement_78 : decode cX11_readStatement 78 = .ok (.aload_n 0, 1) := by decide +kernel
theorem dX11_readStatement_79 : decode cX11_readStatement 79 = .ok (.iload_n 2, 1) := by decide +kernel
theorem dX11_readStatement_80 : decode cX11_readStatement 80 = .ok (.iconst 3, 1) := by decide +kernel
theorem dX11_readStatement_81 : decode cX11_readStatement 81 = .ok (.iload_n 1, 1) := by decide +kernel
theorem dX11_readStatement_82 : decode cX11_readStatement 82 = .ok (.imul, 1) := by decide +kernel
theorem dX11_readStatement_83 : decode cX11_readStatement 83 = .ok (.invokevirtual 164, 3) := by decide +kernel
theorem dX11_readStatement_86 : decode cX11_readStatement 86 = .ok (.aload_n 0, 1) := by decide +kernel
theorem dX11_readStatement_87 : decode cX11_readStatement 87 = .ok (.aload_n 0, 1) := by decide +kernel
theorem dX11_readStatement_88 : decode cX11_readStatement 88 = .ok (.getfield 143, 3) := by decide +kernel
theorem dX11_readStatement_91 : decode cX11_readStatement 91 = .ok (.ifCond .ne 12, 3) := by decide +kernel
theorem dX11_readStatement_94 : decode cX11_readStatement 94 = .ok (.aload_n 0, 1) := by decide +kernel
theorem dX11_readStatement_95 : decode cX11_readStatement 95 = .ok (.invokevirtual 147, 3) := by decide +kernel
theorem dX11_readStatement_98 : decode cX11_readStatement 98 = .ok (.bipush 59, 2) := by decide +kernel
theorem dX11_readStatement_100 : decode cX11_readStatement 100 = .ok (.if_icmp .eq 7, 3) := by decide +kernel
theorem dX11_readStatement_103 : decode cX11_readStatement 103 = .ok (.iconst 1, 1) := by decide +kernel
theorem dX11_readStatement_104 : decode cX11_readStatement 104 = .ok (.goto 4, 3) := by decide +kernel
theorem dX11_readStatement_107 : decode cX11_readStatement 107 = .ok (.iconst 0, 1) := by decide +kernel
theorem dX11_readStatement_108 : decode cX11_readStatement 108 = .ok (.putfield 143, 3) := by decide +kernel
theorem dX11_readStatement_111 : decode cX11_readStatement 111 = .ok (.aload_n 0, 1) := by decide +kernel
theorem dX11_readStatement_112 : decode cX11_readStatement 112 = .ok (.dup, 1) := by decide +kernel
theorem dX11_readStatement_113 : decode cX11_readStatement 113 = .ok (.getfield 140, 3) := by decide +kernel
theorem dX11_readStatement_116 : decode cX11_readStatement 116 = .ok (.aload_n 0, 1) := by decide +kernel
theorem dX11_readStatement_117 : decode cX11_readStatement 117 = .ok (.getfield 143, 3) := by decide +kernel
theorem dX11_readStatement_120 : decode cX11_readStatement 120 = .ok (.ifCond .eq 7, 3) := by decide +kernel
theorem dX11_readStatement_123 : decode cX11_readStatement 123 = .ok (.iconst 0, 1) := by decide +kernel
theorem dX11_readStatement_124 : decode cX11_readStatement 124 = .ok (.goto 4, 3) := by decide +kernel
theorem dX11_readStatement_127 : decode cX11_readStatement 127 = .ok (.iconst 1, 1) := by decide +kernel
theorem dX11_readStatement_128 : decode cX11_readStatement 128 = .ok (.iadd, 1) := by decide +kernel
theorem dX11_readStatement_129 : decode cX11_readStatement 129 = .ok (.putfield 140, 3) := by decide +kernel
theorem dX11_readStatement_132 : decode cX11_readStatement 132 = .ok (.aload_n 0, 1) := by decide +kernel
theorem dX11_readStatement_133 : decode cX11_readStatement 133 = .ok (.dup, 1) := by decide +kernel
theorem dX11_readStatement_134 : decode cX11_readStatement 134 = .ok (.getfield 157, 3) := by decide +kernel
theorem dX11_readStatement_137 : decode cX11_readStatement 137 = .ok (.iconst 1, 1) := by decide +kernel
theorem dX11_readStatement_138 : decode cX11_readStatement 138 = .ok (.iadd, 1) := by decide +kernel
theorem dX11_readStatement_139 : decode cX11_readStatement 139 = .ok (.putfield 157, 3) := by decide +kernel
theorem dX11_readStatement_142 : decode cX11_readStatement 142 = .ok (.return_, 1) := by decide +kernel
theorem dX11_familyComes_0 : decode cX11_familyComes 0 = .ok (.aload_n 0, 1) := by decide +kernel
theorem dX11_familyComes_1 : decode cX11_familyComes 1 = .ok (.getfield 7, 3) := by decide +kernel
theorem dX11_familyComes_4 : decode cX11_familyComes 4 = .ok (.aload_n 0, 1) := by decide +kernel
theorem dX11_familyComes_5 : decode cX11_familyComes 5 = .ok (.getfield 86, 3) := by decide +kernel
theorem dX11_familyComes_8 : decode cX11_familyComes 8 = .ok (.iload_n 1, 1) := by decide +kernel
theorem dX11_familyComes_9 : decode cX11_familyComes 9 = .ok (.iastore, 1) := by decide +kernel
theorem dX11_familyComes_10 : decode cX11_familyComes 10 = .ok (.aload_n 0, 1) := by decide +kernel
theorem dX11_familyComes_11 : decode cX11_familyComes 11 = .ok (.getfield 13, 3) := by decide +kernel
theorem dX11_familyComes_14 : decode cX11_familyComes 14 = .ok (.aload_n 0, 1) := by decide +kernel
theorem dX11_familyComes_15 : decode cX11_familyComes 15 = .ok (.getfield 86, 3) := by decide +kernel
theorem dX11_familyComes_18 : decode cX11_familyComes 18 = .ok (.iconst 0, 1) := by decide +kernel
theorem dX11_familyComes_19 : decode cX11_familyComes 19 = .ok (.iastore, 1) := by decide +kernel
theorem dX11_familyComes_20 : decode cX11_familyComes 20 = .ok (.aload_n 0, 1) := by decide +kernel
theorem dX11_familyComes_21 : decode cX11_familyComes 21 = .ok (.getfield 16, 3) := by decide +kernel
theorem dX11_familyComes_24 : decode cX11_familyComes 24 = .ok (.aload_n 0, 1) := by decide +kernel
theorem dX11_familyComes_25 : decode cX11_familyComes 25 = .ok (.getfield 86, 3) := by decide +kernel
theorem dX11_familyComes_28 : decode cX11_familyComes 28 = .ok (.iload_n 2, 1) := by decide +kernel
theorem dX11_familyComes_29 : decode cX11_familyComes 29 = .ok (.iastore, 1) := by decide +kernel
theorem dX11_familyComes_30 : decode cX11_familyComes 30 = .ok (.aload_n 0, 1) := by decide +kernel
theorem dX11_familyComes_31 : decode cX11_familyComes 31 = .ok (.getfield 19, 3) := by decide +kernel
theorem dX11_familyComes_34 : decode cX11_familyComes 34 = .ok (.aload_n 0, 1) := by decide +kernel
theorem dX11_familyComes_35 : decode cX11_familyComes 35 = .ok (.getfield 86, 3) := by decide +kernel
theorem dX11_familyComes_38 : decode cX11_familyComes 38 = .ok (.iload_n 3, 1) := by decide +kernel
theorem dX11_familyComes_39 : decode cX11_familyComes 39 = .ok (.iastore, 1) := by decide +kernel
theorem dX11_familyComes_40 : decode cX11_familyComes 40 = .ok (.aload_n 0, 1) := by decide +kernel
theorem dX11_familyComes_41 : decode cX11_familyComes 41 = .ok (.dup, 1) := by decide +kernel
theorem dX11_familyComes_42 : decode cX11_familyComes 42 = .ok (.getfield 86, 3) := by decide +kernel
theorem dX11_familyComes_45 : decode cX11_familyComes 45 = .ok (.iconst 1, 1) := by decide +kernel
theorem dX11_familyComes_46 : decode cX11_familyComes 46 = .ok (.iadd, 1) := by decide +kernel
theorem dX11_familyComes_47 : decode cX11_familyComes 47 = .ok (.putfield 86, 3) := by decide +kernel
theorem dX11_familyComes_50 : decode cX11_familyComes 50 = .ok (.return_, 1) := by decide +kernel
theorem dX11_workComes_0 : decode cX11_workComes 0 = .ok (.aload_n 0, 1) := by decide +kernel
theorem dX11_workComes_1 : decode cX11_workComes 1 = .ok (.getfield 26, 3) := by decide +kernel
theorem dX11_workComes_4 : decode cX11_workComes 4 = .ok (.aload_n 0, 1) := by decide +kernel
theorem dX11_workComes_5 : decode cX11_workComes 5 = .ok (.getfield 93, 3) := by decide +kernel
theorem dX11_workComes_8 : decode cX11_workComes 8 = .ok (.iload_n 1, 1) := by decide +kernel
theorem dX11_workComes_9 : decode cX11_workComes 9 = .ok (.iastore, 1) := by decide +kernel
theorem dX11_workComes_10 : decode cX11_workComes 10 = .ok (.aload_n 0, 1) := by decide +kernel
theorem dX11_workComes_11 : decode cX11_workComes 11 = .ok (.getfield 29, 3) := by decide +kernel
theorem dX11_workComes_14 : decode cX11_workComes 14 = .ok (.aload_n 0, 1) := by decide +kernel
theorem dX11_workComes_15 : decode cX11_workComes 15 = .ok (.getfield 93, 3) := by decide +kernel
theorem dX11_workComes_18 : decode cX11_workComes 18 = .ok (.iload_n 2, 1) := by decide +kernel
theorem dX11_workComes_19 : decode cX11_workComes 19 = .ok (.iastore, 1) := by decide +kernel
theorem dX11_workComes_20 : decode cX11_workComes 20 = .ok (.aload_n 0, 1) := by decide +kernel
theorem dX11_workComes_21 : decode cX11_workComes 21 = .ok (.getfield 32, 3) := by decide +kernel
theorem dX11_workComes_24 : decode cX11_workComes 24 = .ok (.aload_n 0, 1) := by decide +kernel
theorem dX11_workComes_25 : decode cX11_workComes 25 = .ok (.getfield 93, 3) := by decide +kernel
theorem dX11_workComes_28 : decode cX11_workComes 28 = .ok (.iload_n 3, 1) := by decide +kernel
theorem dX11_workComes_29 : decode cX11_workComes 29 = .ok (.iastore, 1) := by decide +kernel
theorem dX11_workComes_30 : decode cX11_workComes 30 = .ok (.aload_n 0, 1) := by decide +kernel
theorem dX11_workComes_31 : decode cX11_workComes 31 = .ok (.getfield 35, 3) := by decide +kernel
theorem dX11_workComes_34 : decode cX11_workComes 34 = .ok (.aload_n 0, 1) := by decide +kernel
theorem dX11_workComes_35 : decode cX11_workComes 35 = .ok (.getfield 93, 3) := by decide +kernel
theorem dX11_workComes_38 : decode cX11_workComes 38 = .ok (.iconst 0, 1) := by decide +kernel
theorem dX11_workComes_39 : decode cX11_workComes 39 = .ok (.iastore, 1) := by decide +kernel
theorem dX11_workComes_40 : decode cX11_workComes 40 = .ok (.aload_n 0, 1) := by decide +kernel
theorem dX11_workComes_41 : decode cX11_workComes 41 = .ok (.dup, 1) := by decide +kernel
theorem dX11_workComes_42 : decode cX11_workComes 42 = .ok (.getfield 93, 3) := by decide +kernel
theorem dX11_workComes_45 : decode cX11_workComes 45 = .ok (.iconst 1, 1) := by decide +kernel
theorem dX11_workComes_46 : decode cX11_workComes 46 = .ok (.iadd, 1) := by decide +kernel
theorem dX11_workComes_47 : decode cX11_workComes 47 = .ok (.putfield 93, 3) := by decide +kernel
theorem dX11_workComes_50 : decode cX11_workComes 50 = .ok (.return_, 1) := by decide +kernel
theorem dX11_comesTold_0 : decode cX11_comesTold 0 = .ok (.aload_n 0, 1) := by decide +kernel
theorem dX11_comesTold_1 : decode cX11_comesTold 1 = .ok (.getfield 59, 3) := by decide +kernel
theorem dX11_comesTold_4 : decode cX11_comesTold 4 = .ok (.iconst 3, 1) := by decide +kernel
theorem dX11_comesTold_5 : decode cX11_comesTold 5 = .ok (.iload_n 1, 1) := by decide +kernel
theorem dX11_comesTold_6 : decode cX11_comesTold 6 = .ok (.imul, 1) := by decide +kernel
theorem dX11_comesTold_7 : decode cX11_comesTold 7 = .ok (.iaload, 1) := by decide +kernel
theorem dX11_comesTold_8 : decode cX11_comesTold 8 = .ok (.istore_n 2, 1) := by decide +kernel
theorem dX11_comesTold_9 : decode cX11_comesTold 9 = .ok (.aload_n 0, 1) := by decide +kernel
theorem dX11_comesTold_10 : decode cX11_comesTold 10 = .ok (.getfield 59, 3) := by decide +kernel
theorem dX11_comesTold_13 : decode cX11_comesTold 13 = .ok (.iconst 3, 1) := by decide +kernel
theorem dX11_comesTold_14 : decode cX11_comesTold 14 = .ok (.iload_n 1, 1) := by decide +kernel
theorem dX11_comesTold_15 : decode cX11_comesTold 15 = .ok (.imul, 1) := by decide +kernel
theorem dX11_comesTold_16 : decode cX11_comesTold 16 = .ok (.iconst 1, 1) := by decide +kernel
theorem dX11_comesTold_17 : decode cX11_comesTold 17 = .ok (.iadd, 1) := by decide +kernel
theorem dX11_comesTold_18 : decode cX11_comesTold 18 = .ok (.iaload, 1) := by decide +kernel
theorem dX11_comesTold_19 : decode cX11_comesTold 19 = .ok (.istore_n 3, 1) := by decide +kernel
theorem dX11_comesTold_20 : decode cX11_comesTold 20 = .ok (.aload_n 0, 1) := by decide +kernel
theorem dX11_comesTold_21 : decode cX11_comesTold 21 = .ok (.getfield 59, 3) := by decide +kernel
theorem dX11_comesTold_24 : decode cX11_comesTold 24 = .ok (.iconst 3, 1) := by decide +kernel
theorem dX11_comesTold_25 : decode cX11_comesTold 25 = .ok (.iload_n 1, 1) := by decide +kernel
theorem dX11_comesTold_26 : decode cX11_comesTold 26 = .ok (.imul, 1) := by decide +kernel
theorem dX11_comesTold_27 : decode cX11_comesTold 27 = .ok (.iconst 2, 1) := by decide +kernel
theorem dX11_comesTold_28 : decode cX11_comesTold 28 = .ok (.iadd, 1) := by decide +kernel
theorem dX11_comesTold_29 : decode cX11_comesTold 29 = .ok (.iaload, 1) := by decide +kernel
theorem dX11_comesTold_30 : decode cX11_comesTold 30 = .ok (.istore 4, 2) := by decide +kernel
theorem dX11_comesTold_32 : decode cX11_comesTold 32 = .ok (.iconst 1, 1) := by decide +kernel
theorem dX11_comesTold_33 : decode cX11_comesTold 33 = .ok (.istore 5, 2) := by decide +kernel
theorem dX11_comesTold_35 : decode cX11_comesTold 35 = .ok (.aload_n 0, 1) := by decide +kernel
theorem dX11_comesTold_36 : decode cX11_comesTold 36 = .ok (.getfield 56, 3) := by decide +kernel
theorem dX11_comesTold_39 : decode cX11_comesTold 39 = .ok (.iload_n 1, 1) := by decide +kernel
theorem dX11_comesTold_40 : decode cX11_comesTold 40 = .ok (.iaload, 1) := by decide +kernel
theorem dX11_comesTold_41 : decode cX11_comesTold 41 = .ok (.lookupswitch 235 #[(98, 137), (102, 51), (114, 174), (119, 94), (121, 191)], 51) := by decide +kernel
theorem dX11_comesTold_92 : decode cX11_comesTold 92 = .ok (.iload_n 2, 1) := by decide +kernel
theorem dX11_comesTold_93 : decode cX11_comesTold 93 = .ok (.i2l, 1) := by decide +kernel
theorem dX11_comesTold_94 : decode cX11_comesTold 94 = .ok (.lconst 1, 1) := by decide +kernel
theorem dX11_comesTold_95 : decode cX11_comesTold 95 = .ok (.ldc2_w 168, 3) := by decide +kernel
theorem dX11_comesTold_98 : decode cX11_comesTold 98 = .ok (.invokestatic 89, 3) := by decide +kernel
theorem dX11_comesTold_101 : decode cX11_comesTold 101 = .ok (.ifCond .eq 15, 3) := by decide +kernel
theorem dX11_comesTold_104 : decode cX11_comesTold 104 = .ok (.aload_n 0, 1) := by decide +kernel
theorem dX11_comesTold_105 : decode cX11_comesTold 105 = .ok (.getfield 86, 3) := by decide +kernel
theorem dX11_comesTold_108 : decode cX11_comesTold 108 = .ok (.iconst 5, 1) := by decide +kernel
theorem dX11_comesTold_109 : decode cX11_comesTold 109 = .ok (.if_icmp .ge 7, 3) := by decide +kernel
theorem dX11_comesTold_112 : decode cX11_comesTold 112 = .ok (.iconst 1, 1) := by decide +kernel
theorem dX11_comesTold_113 : decode cX11_comesTold 113 = .ok (.goto 4, 3) := by decide +kernel
theorem dX11_comesTold_116 : decode cX11_comesTold 116 = .ok (.iconst 0, 1) := by decide +kernel
theorem dX11_comesTold_117 : decode cX11_comesTold 117 = .ok (.istore 5, 2) := by decide +kernel
theorem dX11_comesTold_119 : decode cX11_comesTold 119 = .ok (.iload 5, 2) := by decide +kernel
theorem dX11_comesTold_121 : decode cX11_comesTold 121 = .ok (.ifCond .eq 11, 3) := by decide +kernel
theorem dX11_comesTold_124 : decode cX11_comesTold 124 = .ok (.aload_n 0, 1) := by decide +kernel
theorem dX11_comesTold_125 : decode cX11_comesTold 125 = .ok (.iload_n 2, 1) := by decide +kernel
theorem dX11_comesTold_126 : decode cX11_comesTold 126 = .ok (.iload_n 3, 1) := by decide +kernel
theorem dX11_comesTold_127 : decode cX11_comesTold 127 = .ok (.iload 4, 2) := by decide +kernel
theorem dX11_comesTold_129 : decode cX11_comesTold 129 = .ok (.invokevirtual 170, 3) := by decide +kernel
theorem dX11_comesTold_132 : decode cX11_comesTold 132 = .ok (.iload 5, 2) := by decide +kernel
theorem dX11_comesTold_134 : decode cX11_comesTold 134 = .ok (.ireturn, 1) := by decide +kernel
theorem dX11_comesTold_135 : decode cX11_comesTold 135 = .ok (.iload_n 2, 1) := by decide +kernel
theorem dX11_comesTold_136 : decode cX11_comesTold 136 = .ok (.bipush 6, 2) := by decide +kernel
theorem dX11_comesTold_138 : decode cX11_comesTold 138 = .ok (.if_icmp .ge 21, 3) := by decide +kernel
theorem dX11_comesTold_141 : decode cX11_comesTold 141 = .ok (.iload 4, 2) := by decide +kernel
theorem dX11_comesTold_143 : decode cX11_comesTold 143 = .ok (.ifCond .le 16, 3) := by decide +kernel
theorem dX11_comesTold_146 : decode cX11_comesTold 146 = .ok (.aload_n 0, 1) := by decide +kernel
theorem dX11_comesTold_147 : decode cX11_comesTold 147 = .ok (.getfield 93, 3) := by decide +kernel
theorem dX11_comesTold_150 : decode cX11_comesTold 150 = .ok (.bipush 6, 2) := by decide +kernel
theorem dX11_comesTold_152 : decode cX11_comesTold 152 = .ok (.if_icmp .ge 7, 3) := by decide +kernel
theorem dX11_comesTold_155 : decode cX11_comesTold 155 = .ok (.iconst 1, 1) := by decide +kernel
theorem dX11_comesTold_156 : decode cX11_comesTold 156 = .ok (.goto 4, 3) := by decide +kernel
theorem dX11_comesTold_159 : decode cX11_comesTold 159 = .ok (.iconst 0, 1) := by decide +kernel
theorem dX11_comesTold_160 : decode cX11_comesTold 160 = .ok (.istore 5, 2) := by decide +kernel
theorem dX11_comesTold_162 : decode cX11_comesTold 162 = .ok (.iload 5, 2) := by decide +kernel
theorem dX11_comesTold_164 : decode cX11_comesTold 164 = .ok (.ifCond .eq 11, 3) := by decide +kernel
theorem dX11_comesTold_167 : decode cX11_comesTold 167 = .ok (.aload_n 0, 1) := by decide +kernel
theorem dX11_comesTold_168 : decode cX11_comesTold 168 = .ok (.iload_n 2, 1) := by decide +kernel
theorem dX11_comesTold_169 : decode cX11_comesTold 169 = .ok (.iload_n 3, 1) := by decide +kernel
theorem dX11_comesTold_170 : decode cX11_comesTold 170 = .ok (.iload 4, 2) := by decide +kernel
theorem dX11_comesTold_172 : decode cX11_comesTold 172 = .ok (.invokevirtual 174, 3) := by decide +kernel
theorem dX11_comesTold_175 : decode cX11_comesTold 175 = .ok (.iload 5, 2) := by decide +kernel
theorem dX11_comesTold_177 : decode cX11_comesTold 177 = .ok (.ireturn, 1) := by decide +kernel
theorem dX11_comesTold_178 : decode cX11_comesTold 178 = .ok (.aload_n 0, 1) := by decide +kernel
theorem dX11_comesTold_179 : decode cX11_comesTold 179 = .ok (.iload_n 2, 1) := by decide +kernel
theorem dX11_comesTold_180 : decode cX11_comesTold 180 = .ok (.invokevirtual 177, 3) := by decide +kernel
theorem dX11_comesTold_183 : decode cX11_comesTold 183 = .ok (.ifCond .eq 16, 3) := by decide +kernel
theorem dX11_comesTold_186 : decode cX11_comesTold 186 = .ok (.aload_n 0, 1) := by decide +kernel
theorem dX11_comesTold_187 : decode cX11_comesTold 187 = .ok (.getfield 35, 3) := by decide +kernel
theorem dX11_comesTold_190 : decode cX11_comesTold 190 = .ok (.iload_n 2, 1) := by decide +kernel
theorem dX11_comesTold_191 : decode cX11_comesTold 191 = .ok (.iaload, 1) := by decide +kernel
theorem dX11_comesTold_192 : decode cX11_comesTold 192 = .ok (.ifCond .ne 7, 3) := by decide +kernel
theorem dX11_comesTold_195 : decode cX11_comesTold 195 = .ok (.iconst 1, 1) := by decide +kernel
theorem dX11_comesTold_196 : decode cX11_comesTold 196 = .ok (.goto 4, 3) := by decide +kernel
theorem dX11_comesTold_199 : decode cX11_comesTold 199 = .ok (.iconst 0, 1) := by decide +kernel
theorem dX11_comesTold_200 : decode cX11_comesTold 200 = .ok (.istore 5, 2) := by decide +kernel
theorem dX11_comesTold_202 : decode cX11_comesTold 202 = .ok (.iload 5, 2) := by decide +kernel
theorem dX11_comesTold_204 : decode cX11_comesTold 204 = .ok (.ifCond .eq 8, 3) := by decide +kernel
theorem dX11_comesTold_207 : decode cX11_comesTold 207 = .ok (.aload_n 0, 1) := by decide +kernel
theorem dX11_comesTold_208 : decode cX11_comesTold 208 = .ok (.iload_n 2, 1) := by decide +kernel
theorem dX11_comesTold_209 : decode cX11_comesTold 209 = .ok (.invokevirtual 180, 3) := by decide +kernel
theorem dX11_comesTold_212 : decode cX11_comesTold 212 = .ok (.iload 5, 2) := by decide +kernel
theorem dX11_comesTold_214 : decode cX11_comesTold 214 = .ok (.ireturn, 1) := by decide +kernel
theorem dX11_comesTold_215 : decode cX11_comesTold 215 = .ok (.aload_n 0, 1) := by decide +kernel
theorem dX11_comesTold_216 : decode cX11_comesTold 216 = .ok (.iload_n 2, 1) := by decide +kernel
theorem dX11_comesTold_217 : decode cX11_comesTold 217 = .ok (.putfield 22, 3) := by decide +kernel
theorem dX11_comesTold_220 : decode cX11_comesTold 220 = .ok (.iload_n 2, 1) := by decide +kernel
theorem dX11_comesTold_221 : decode cX11_comesTold 221 = .ok (.bipush 20, 2) := by decide +kernel
theorem dX11_comesTold_223 : decode cX11_comesTold 223 = .ok (.if_icmp .gt 7, 3) := by decide +kernel
theorem dX11_comesTold_226 : decode cX11_comesTold 226 = .ok (.iconst 1, 1) := by decide +kernel
theorem dX11_comesTold_227 : decode cX11_comesTold 227 = .ok (.goto 4, 3) := by decide +kernel
theorem dX11_comesTold_230 : decode cX11_comesTold 230 = .ok (.iconst 0, 1) := by decide +kernel
theorem dX11_comesTold_231 : decode cX11_comesTold 231 = .ok (.ireturn, 1) := by decide +kernel
theorem dX11_comesTold_232 : decode cX11_comesTold 232 = .ok (.iload_n 2, 1) := by decide +kernel
theorem dX11_comesTold_233 : decode cX11_comesTold 233 = .ok (.i2l, 1) := by decide +kernel
theorem dX11_comesTold_234 : decode cX11_comesTold 234 = .ok (.lconst 1, 1) := by decide +kernel
theorem dX11_comesTold_235 : decode cX11_comesTold 235 = .ok (.ldc2_w 183, 3) := by decide +kernel
theorem dX11_comesTold_238 : decode cX11_comesTold 238 = .ok (.invokestatic 89, 3) := by decide +kernel
theorem dX11_comesTold_241 : decode cX11_comesTold 241 = .ok (.ifCond .eq 19, 3) := by decide +kernel
theorem dX11_comesTold_244 : decode cX11_comesTold 244 = .ok (.aload_n 0, 1) := by decide +kernel
theorem dX11_comesTold_245 : decode cX11_comesTold 245 = .ok (.getfield 122, 3) := by decide +kernel
theorem dX11_comesTold_248 : decode cX11_comesTold 248 = .ok (.iload_n 2, 1) := by decide +kernel
theorem dX11_comesTold_249 : decode cX11_comesTold 249 = .ok (.iadd, 1) := by decide +kernel
theorem dX11_comesTold_250 : decode cX11_comesTold 250 = .ok (.sipush 999, 3) := by decide +kernel
theorem dX11_comesTold_253 : decode cX11_comesTold 253 = .ok (.if_icmp .gt 7, 3) := by decide +kernel
theorem dX11_comesTold_256 : decode cX11_comesTold 256 = .ok (.iconst 1, 1) := by decide +kernel
theorem dX11_comesTold_257 : decode cX11_comesTold 257 = .ok (.goto 4, 3) := by decide +kernel
theorem dX11_comesTold_260 : decode cX11_comesTold 260 = .ok (.iconst 0, 1) := by decide +kernel
theorem dX11_comesTold_261 : decode cX11_comesTold 261 = .ok (.istore 5, 2) := by decide +kernel
theorem dX11_comesTold_263 : decode cX11_comesTold 263 = .ok (.iload 5, 2) := by decide +kernel
theorem dX11_comesTold_265 : decode cX11_comesTold 265 = .ok (.ifCond .eq 8, 3) := by decide +kernel
theorem dX11_comesTold_268 : decode cX11_comesTold 268 = .ok (.aload_n 0, 1) := by decide +kernel
theorem dX11_comesTold_269 : decode cX11_comesTold 269 = .ok (.iload_n 2, 1) := by decide +kernel
theorem dX11_comesTold_270 : decode cX11_comesTold 270 = .ok (.invokevirtual 185, 3) := by decide +kernel
theorem dX11_comesTold_273 : decode cX11_comesTold 273 = .ok (.iload 5, 2) := by decide +kernel
theorem dX11_comesTold_275 : decode cX11_comesTold 275 = .ok (.ireturn, 1) := by decide +kernel
theorem dX11_comesTold_276 : decode cX11_comesTold 276 = .ok (.aload_n 0, 1) := by decide +kernel
theorem dX11_comesTold_277 : decode cX11_comesTold 277 = .ok (.iload_n 2, 1) := by decide +kernel
theorem dX11_comesTold_278 : decode cX11_comesTold 278 = .ok (.invokevirtual 188, 3) := by decide +kernel
theorem dX11_comesTold_281 : decode cX11_comesTold 281 = .ok (.istore 5, 2) := by decide +kernel
theorem dX11_comesTold_283 : decode cX11_comesTold 283 = .ok (.iload 5, 2) := by decide +kernel
theorem dX11_comesTold_285 : decode cX11_comesTold 285 = .ok (.ifCond .eq 10, 3) := by decide +kernel
theorem dX11_comesTold_288 : decode cX11_comesTold 288 = .ok (.aload_n 0, 1) := by decide +kernel
theorem dX11_comesTold_289 : decode cX11_comesTold 289 = .ok (.getfield 13, 3) := by decide +kernel
theorem dX11_comesTold_292 : decode cX11_comesTold 292 = .ok (.iload_n 2, 1) := by decide +kernel
theorem dX11_comesTold_293 : decode cX11_comesTold 293 = .ok (.iload_n 3, 1) := by decide +kernel
theorem dX11_comesTold_294 : decode cX11_comesTold 294 = .ok (.iastore, 1) := by decide +kernel
theorem dX11_comesTold_295 : decode cX11_comesTold 295 = .ok (.iload 5, 2) := by decide +kernel
theorem dX11_comesTold_297 : decode cX11_comesTold 297 = .ok (.ireturn, 1) := by decide +kernel
theorem dX11_treasury_0 : decode cX11_treasury 0 = .ok (.aload_n 0, 1) := by decide +kernel
theorem dX11_treasury_1 : decode cX11_treasury 1 = .ok (.iconst 0, 1) := by decide +kernel
theorem dX11_treasury_2 : decode cX11_treasury 2 = .ok (.putfield 83, 3) := by decide +kernel
theorem dX11_treasury_5 : decode cX11_treasury 5 = .ok (.aload_n 0, 1) := by decide +kernel
theorem dX11_treasury_6 : decode cX11_treasury 6 = .ok (.iconst 0, 1) := by decide +kernel
theorem dX11_treasury_7 : decode cX11_treasury 7 = .ok (.putfield 140, 3) := by decide +kernel
theorem dX11_treasury_10 : decode cX11_treasury 10 = .ok (.aload_n 0, 1) := by decide +kernel
theorem dX11_treasury_11 : decode cX11_treasury 11 = .ok (.iconst 0, 1) := by decide +kernel
theorem dX11_treasury_12 : decode cX11_treasury 12 = .ok (.putfield 143, 3) := by decide +kernel
theorem dX11_treasury_15 : decode cX11_treasury 15 = .ok (.aload_n 0, 1) := by decide +kernel
theorem dX11_treasury_16 : decode cX11_treasury 16 = .ok (.iconst 0, 1) := by decide +kernel
theorem dX11_treasury_17 : decode cX11_treasury 17 = .ok (.putfield 157, 3) := by decide +kernel
theorem dX11_treasury_20 : decode cX11_treasury 20 = .ok (.aload_n 0, 1) := by decide +kernel
theorem dX11_treasury_21 : decode cX11_treasury 21 = .ok (.getfield 143, 3) := by decide +kernel
theorem dX11_treasury_24 : decode cX11_treasury 24 = .ok (.ifCond .ne 28, 3) := by decide +kernel
theorem dX11_treasury_27 : decode cX11_treasury 27 = .ok (.aload_n 0, 1) := by decide +kernel
theorem dX11_treasury_28 : decode cX11_treasury 28 = .ok (.getfield 157, 3) := by decide +kernel
theorem dX11_treasury_31 : decode cX11_treasury 31 = .ok (.ifCond .eq 14, 3) := by decide +kernel
theorem dX11_treasury_34 : decode cX11_treasury 34 = .ok (.aload_n 0, 1) := by decide +kernel
theorem dX11_treasury_35 : decode cX11_treasury 35 = .ok (.getfield 140, 3) := by decide +kernel
theorem dX11_treasury_38 : decode cX11_treasury 38 = .ok (.aload_n 0, 1) := by decide +kernel
theorem dX11_treasury_39 : decode cX11_treasury 39 = .ok (.getfield 137, 3) := by decide +kernel
theorem dX11_treasury_42 : decode cX11_treasury 42 = .ok (.if_icmp .ge 10, 3) := by decide +kernel
theorem dX11_treasury_45 : decode cX11_treasury 45 = .ok (.aload_n 0, 1) := by decide +kernel
theorem dX11_treasury_46 : decode cX11_treasury 46 = .ok (.invokevirtual 191, 3) := by decide +kernel
theorem dX11_treasury_49 : decode cX11_treasury 49 = .ok (.goto (-29), 3) := by decide +kernel
theorem dX11_treasury_52 : decode cX11_treasury 52 = .ok (.aload_n 0, 1) := by decide +kernel
theorem dX11_treasury_53 : decode cX11_treasury 53 = .ok (.iconst 0, 1) := by decide +kernel
theorem dX11_treasury_54 : decode cX11_treasury 54 = .ok (.putfield 137, 3) := by decide +kernel
theorem dX11_treasury_57 : decode cX11_treasury 57 = .ok (.aload_n 0, 1) := by decide +kernel
theorem dX11_treasury_58 : decode cX11_treasury 58 = .ok (.getfield 143, 3) := by decide +kernel
theorem dX11_treasury_61 : decode cX11_treasury 61 = .ok (.ifCond .eq 12, 3) := by decide +kernel
theorem dX11_treasury_64 : decode cX11_treasury 64 = .ok (.sipush (-1000), 3) := by decide +kernel
theorem dX11_treasury_67 : decode cX11_treasury 67 = .ok (.aload_n 0, 1) := by decide +kernel
theorem dX11_treasury_68 : decode cX11_treasury 68 = .ok (.getfield 140, 3) := by decide +kernel
theorem dX11_treasury_71 : decode cX11_treasury 71 = .ok (.isub, 1) := by decide +kernel
theorem dX11_treasury_72 : decode cX11_treasury 72 = .ok (.ireturn, 1) := by decide +kernel
theorem dX11_treasury_73 : decode cX11_treasury 73 = .ok (.aload_n 0, 1) := by decide +kernel
theorem dX11_treasury_74 : decode cX11_treasury 74 = .ok (.invokevirtual 194, 3) := by decide +kernel
theorem dX11_treasury_77 : decode cX11_treasury 77 = .ok (.iconst 0, 1) := by decide +kernel
theorem dX11_treasury_78 : decode cX11_treasury 78 = .ok (.istore_n 1, 1) := by decide +kernel
theorem dX11_treasury_79 : decode cX11_treasury 79 = .ok (.iload_n 1, 1) := by decide +kernel
theorem dX11_treasury_80 : decode cX11_treasury 80 = .ok (.aload_n 0, 1) := by decide +kernel
theorem dX11_treasury_81 : decode cX11_treasury 81 = .ok (.getfield 157, 3) := by decide +kernel
theorem dX11_treasury_84 : decode cX11_treasury 84 = .ok (.if_icmp .ge 32, 3) := by decide +kernel
theorem dX11_treasury_87 : decode cX11_treasury 87 = .ok (.aload_n 0, 1) := by decide +kernel
theorem dX11_treasury_88 : decode cX11_treasury 88 = .ok (.iload_n 1, 1) := by decide +kernel
theorem dX11_treasury_89 : decode cX11_treasury 89 = .ok (.invokevirtual 197, 3) := by decide +kernel
theorem dX11_treasury_92 : decode cX11_treasury 92 = .ok (.ifCond .ne 18, 3) := by decide +kernel
theorem dX11_treasury_95 : decode cX11_treasury 95 = .ok (.aload_n 0, 1) := by decide +kernel
theorem dX11_treasury_96 : decode cX11_treasury 96 = .ok (.invokevirtual 200, 3) := by decide +kernel
theorem dX11_treasury_99 : decode cX11_treasury 99 = .ok (.sipush (-2000), 3) := by decide +kernel
theorem dX11_treasury_102 : decode cX11_treasury 102 = .ok (.aload_n 0, 1) := by decide +kernel
theorem dX11_treasury_103 : decode cX11_treasury 103 = .ok (.getfield 53, 3) := by decide +kernel
theorem dX11_treasury_106 : decode cX11_treasury 106 = .ok (.iload_n 1, 1) := by decide +kernel
theorem dX11_treasury_107 : decode cX11_treasury 107 = .ok (.iaload, 1) := by decide +kernel
theorem dX11_treasury_108 : decode cX11_treasury 108 = .ok (.isub, 1) := by decide +kernel
theorem dX11_treasury_109 : decode cX11_treasury 109 = .ok (.ireturn, 1) := by decide +kernel
theorem dX11_treasury_110 : decode cX11_treasury 110 = .ok (.iinc 1 1, 3) := by decide +kernel
theorem dX11_treasury_113 : decode cX11_treasury 113 = .ok (.goto (-34), 3) := by decide +kernel
theorem dX11_treasury_116 : decode cX11_treasury 116 = .ok (.aload_n 0, 1) := by decide +kernel
theorem dX11_treasury_117 : decode cX11_treasury 117 = .ok (.iconst 0, 1) := by decide +kernel
theorem dX11_treasury_118 : decode cX11_treasury 118 = .ok (.putfield 203, 3) := by decide +kernel
theorem dX11_treasury_121 : decode cX11_treasury 121 = .ok (.aload_n 0, 1) := by decide +kernel
theorem dX11_treasury_122 : decode cX11_treasury 122 = .ok (.getfield 157, 3) := by decide +kernel
theorem dX11_treasury_125 : decode cX11_treasury 125 = .ok (.ireturn, 1) := by decide +kernel
theorem dX11_carry_0 : decode cX11_carry 0 = .ok (.aload_n 0, 1) := by decide +kernel
theorem dX11_carry_1 : decode cX11_carry 1 = .ok (.getfield 206, 3) := by decide +kernel
theorem dX11_carry_4 : decode cX11_carry 4 = .ok (.ifCond .eq 13, 3) := by decide +kernel
theorem dX11_carry_7 : decode cX11_carry 7 = .ok (.aload_n 0, 1) := by decide +kernel
theorem dX11_carry_8 : decode cX11_carry 8 = .ok (.getfield 209, 3) := by decide +kernel
theorem dX11_carry_11 : decode cX11_carry 11 = .ok (.aload_n 0, 1) := by decide +kernel
theorem dX11_carry_12 : decode cX11_carry 12 = .ok (.getfield 212, 3) := by decide +kernel
theorem dX11_carry_15 : decode cX11_carry 15 = .ok (.iload_n 1, 1) := by decide +kernel
theorem dX11_carry_16 : decode cX11_carry 16 = .ok (.iastore, 1) := by decide +kernel
theorem dX11_carry_17 : decode cX11_carry 17 = .ok (.aload_n 0, 1) := by decide +kernel
theorem dX11_carry_18 : decode cX11_carry 18 = .ok (.dup, 1) := by decide +kernel
theorem dX11_carry_19 : decode cX11_carry 19 = .ok (.getfield 212, 3) := by decide +kernel
theorem dX11_carry_22 : decode cX11_carry 22 = .ok (.iconst 1, 1) := by decide +kernel
theorem dX11_carry_23 : decode cX11_carry 23 = .ok (.iadd, 1) := by decide +kernel
theorem dX11_carry_24 : decode cX11_carry 24 = .ok (.putfield 212, 3) := by decide +kernel
theorem dX11_carry_27 : decode cX11_carry 27 = .ok (.aload_n 0, 1) := by decide +kernel
theorem dX11_carry_28 : decode cX11_carry 28 = .ok (.getfield 209, 3) := by decide +kernel
theorem dX11_carry_31 : decode cX11_carry 31 = .ok (.aload_n 0, 1) := by decide +kernel
theorem dX11_carry_32 : decode cX11_carry 32 = .ok (.getfield 212, 3) := by decide +kernel
theorem dX11_carry_35 : decode cX11_carry 35 = .ok (.iconst 1, 1) := by decide +kernel
theorem dX11_carry_36 : decode cX11_carry 36 = .ok (.isub, 1) := by decide +kernel
theorem dX11_carry_37 : decode cX11_carry 37 = .ok (.iaload, 1) := by decide +kernel
theorem dX11_carry_38 : decode cX11_carry 38 = .ok (.ireturn, 1) := by decide +kernel
theorem dX11_carryAll_0 : decode cX11_carryAll 0 = .ok (.aload_n 0, 1) := by decide +kernel
theorem dX11_carryAll_1 : decode cX11_carryAll 1 = .ok (.aload_n 1, 1) := by decide +kernel
theorem dX11_carryAll_2 : decode cX11_carryAll 2 = .ok (.putfield 209, 3) := by decide +kernel
theorem dX11_carryAll_5 : decode cX11_carryAll 5 = .ok (.aload_n 0, 1) := by decide +kernel
theorem dX11_carryAll_6 : decode cX11_carryAll 6 = .ok (.iload_n 2, 1) := by decide +kernel
theorem dX11_carryAll_7 : decode cX11_carryAll 7 = .ok (.putfield 206, 3) := by decide +kernel
theorem dX11_carryAll_10 : decode cX11_carryAll 10 = .ok (.aload_n 0, 1) := by decide +kernel
theorem dX11_carryAll_11 : decode cX11_carryAll 11 = .ok (.iconst 0, 1) := by decide +kernel
theorem dX11_carryAll_12 : decode cX11_carryAll 12 = .ok (.putfield 212, 3) := by decide +kernel
theorem dX11_carryAll_15 : decode cX11_carryAll 15 = .ok (.aload_n 0, 1) := by decide +kernel
theorem dX11_carryAll_16 : decode cX11_carryAll 16 = .ok (.aload_n 0, 1) := by decide +kernel
theorem dX11_carryAll_17 : decode cX11_carryAll 17 = .ok (.aload_n 0, 1) := by decide +kernel
theorem dX11_carryAll_18 : decode cX11_carryAll 18 = .ok (.getfield 86, 3) := by decide +kernel
theorem dX11_carryAll_21 : decode cX11_carryAll 21 = .ok (.invokevirtual 215, 3) := by decide +kernel
theorem dX11_carryAll_24 : decode cX11_carryAll 24 = .ok (.putfield 86, 3) := by decide +kernel
theorem dX11_carryAll_27 : decode cX11_carryAll 27 = .ok (.aload_n 0, 1) := by decide +kernel
theorem dX11_carryAll_28 : decode cX11_carryAll 28 = .ok (.aload_n 0, 1) := by decide +kernel
theorem dX11_carryAll_29 : decode cX11_carryAll 29 = .ok (.aload_n 0, 1) := by decide +kernel
theorem dX11_carryAll_30 : decode cX11_carryAll 30 = .ok (.getfield 93, 3) := by decide +kernel
theorem dX11_carryAll_33 : decode cX11_carryAll 33 = .ok (.invokevirtual 215, 3) := by decide +kernel
theorem dX11_carryAll_36 : decode cX11_carryAll 36 = .ok (.putfield 93, 3) := by decide +kernel
theorem dX11_carryAll_39 : decode cX11_carryAll 39 = .ok (.aload_n 0, 1) := by decide +kernel
theorem dX11_carryAll_40 : decode cX11_carryAll 40 = .ok (.aload_n 0, 1) := by decide +kernel
theorem dX11_carryAll_41 : decode cX11_carryAll 41 = .ok (.aload_n 0, 1) := by decide +kernel
theorem dX11_carryAll_42 : decode cX11_carryAll 42 = .ok (.getfield 22, 3) := by decide +kernel
theorem dX11_carryAll_45 : decode cX11_carryAll 45 = .ok (.invokevirtual 215, 3) := by decide +kernel
theorem dX11_carryAll_48 : decode cX11_carryAll 48 = .ok (.putfield 22, 3) := by decide +kernel
theorem dX11_carryAll_51 : decode cX11_carryAll 51 = .ok (.aload_n 0, 1) := by decide +kernel
theorem dX11_carryAll_52 : decode cX11_carryAll 52 = .ok (.aload_n 0, 1) := by decide +kernel
theorem dX11_carryAll_53 : decode cX11_carryAll 53 = .ok (.aload_n 0, 1) := by decide +kernel
theorem dX11_carryAll_54 : decode cX11_carryAll 54 = .ok (.getfield 122, 3) := by decide +kernel
theorem dX11_carryAll_57 : decode cX11_carryAll 57 = .ok (.invokevirtual 215, 3) := by decide +kernel
theorem dX11_carryAll_60 : decode cX11_carryAll 60 = .ok (.putfield 122, 3) := by decide +kernel
theorem dX11_carryAll_63 : decode cX11_carryAll 63 = .ok (.iconst 0, 1) := by decide +kernel
theorem dX11_carryAll_64 : decode cX11_carryAll 64 = .ok (.istore_n 3, 1) := by decide +kernel
theorem dX11_carryAll_65 : decode cX11_carryAll 65 = .ok (.iload_n 3, 1) := by decide +kernel
theorem dX11_carryAll_66 : decode cX11_carryAll 66 = .ok (.iconst 5, 1) := by decide +kernel
theorem dX11_carryAll_67 : decode cX11_carryAll 67 = .ok (.if_icmp .ge 73, 3) := by decide +kernel
theorem dX11_carryAll_70 : decode cX11_carryAll 70 = .ok (.aload_n 0, 1) := by decide +kernel
theorem dX11_carryAll_71 : decode cX11_carryAll 71 = .ok (.getfield 7, 3) := by decide +kernel
theorem dX11_carryAll_74 : decode cX11_carryAll 74 = .ok (.iload_n 3, 1) := by decide +kernel
theorem dX11_carryAll_75 : decode cX11_carryAll 75 = .ok (.aload_n 0, 1) := by decide +kernel
theorem dX11_carryAll_76 : decode cX11_carryAll 76 = .ok (.aload_n 0, 1) := by decide +kernel
theorem dX11_carryAll_77 : decode cX11_carryAll 77 = .ok (.getfield 7, 3) := by decide +kernel
theorem dX11_carryAll_80 : decode cX11_carryAll 80 = .ok (.iload_n 3, 1) := by decide +kernel
theorem dX11_carryAll_81 : decode cX11_carryAll 81 = .ok (.iaload, 1) := by decide +kernel
theorem dX11_carryAll_82 : decode cX11_carryAll 82 = .ok (.invokevirtual 215, 3) := by decide +kernel
theorem dX11_carryAll_85 : decode cX11_carryAll 85 = .ok (.iastore, 1) := by decide +kernel
theorem dX11_carryAll_86 : decode cX11_carryAll 86 = .ok (.aload_n 0, 1) := by decide +kernel
theorem dX11_carryAll_87 : decode cX11_carryAll 87 = .ok (.getfield 13, 3) := by decide +kernel
theorem dX11_carryAll_90 : decode cX11_carryAll 90 = .ok (.iload_n 3, 1) := by decide +kernel
theorem dX11_carryAll_91 : decode cX11_carryAll 91 = .ok (.aload_n 0, 1) := by decide +kernel
theorem dX11_carryAll_92 : decode cX11_carryAll 92 = .ok (.aload_n 0, 1) := by decide +kernel
theorem dX11_carryAll_93 : decode cX11_carryAll 93 = .ok (.getfield 13, 3) := by decide +kernel
theorem dX11_carryAll_96 : decode cX11_carryAll 96 = .ok (.iload_n 3, 1) := by decide +kernel
theorem dX11_carryAll_97 : decode cX11_carryAll 97 = .ok (.iaload, 1) := by decide +kernel
theorem dX11_carryAll_98 : decode cX11_carryAll 98 = .ok (.invokevirtual 215, 3) := by decide +kernel
theorem dX11_carryAll_101 : decode cX11_carryAll 101 = .ok (.iastore, 1) := by decide +kernel
theorem dX11_carryAll_102 : decode cX11_carryAll 102 = .ok (.aload_n 0, 1) := by decide +kernel
theorem dX11_carryAll_103 : decode cX11_carryAll 103 = .ok (.getfield 16, 3) := by decide +kernel
theorem dX11_carryAll_106 : decode cX11_carryAll 106 = .ok (.iload_n 3, 1) := by decide +kernel
theorem dX11_carryAll_107 : decode cX11_carryAll 107 = .ok (.aload_n 0, 1) := by decide +kernel
theorem dX11_carryAll_108 : decode cX11_carryAll 108 = .ok (.aload_n 0, 1) := by decide +kernel
theorem dX11_carryAll_109 : decode cX11_carryAll 109 = .ok (.getfield 16, 3) := by decide +kernel
theorem dX11_carryAll_112 : decode cX11_carryAll 112 = .ok (.iload_n 3, 1) := by decide +kernel
theorem dX11_carryAll_113 : decode cX11_carryAll 113 = .ok (.iaload, 1) := by decide +kernel
theorem dX11_carryAll_114 : decode cX11_carryAll 114 = .ok (.invokevirtual 215, 3) := by decide +kernel
theorem dX11_carryAll_117 : decode cX11_carryAll 117 = .ok (.iastore, 1) := by decide +kernel
theorem dX11_carryAll_118 : decode cX11_carryAll 118 = .ok (.aload_n 0, 1) := by decide +kernel
theorem dX11_carryAll_119 : decode cX11_carryAll 119 = .ok (.getfield 19, 3) := by decide +kernel
theorem dX11_carryAll_122 : decode cX11_carryAll 122 = .ok (.iload_n 3, 1) := by decide +kernel
theorem dX11_carryAll_123 : decode cX11_carryAll 123 = .ok (.aload_n 0, 1) := by decide +kernel
theorem dX11_carryAll_124 : decode cX11_carryAll 124 = .ok (.aload_n 0, 1) := by decide +kernel
theorem dX11_carryAll_125 : decode cX11_carryAll 125 = .ok (.getfield 19, 3) := by decide +kernel
theorem dX11_carryAll_128 : decode cX11_carryAll 128 = .ok (.iload_n 3, 1) := by decide +kernel
theorem dX11_carryAll_129 : decode cX11_carryAll 129 = .ok (.iaload, 1) := by decide +kernel
theorem dX11_carryAll_130 : decode cX11_carryAll 130 = .ok (.invokevirtual 215, 3) := by decide +kernel
theorem dX11_carryAll_133 : decode cX11_carryAll 133 = .ok (.iastore, 1) := by decide +kernel
theorem dX11_carryAll_134 : decode cX11_carryAll 134 = .ok (.iinc 3 1, 3) := by decide +kernel
theorem dX11_carryAll_137 : decode cX11_carryAll 137 = .ok (.goto (-72), 3) := by decide +kernel
theorem dX11_carryAll_140 : decode cX11_carryAll 140 = .ok (.iconst 0, 1) := by decide +kernel
theorem dX11_carryAll_141 : decode cX11_carryAll 141 = .ok (.istore_n 3, 1) := by decide +kernel
theorem dX11_carryAll_142 : decode cX11_carryAll 142 = .ok (.iload_n 3, 1) := by decide +kernel
theorem dX11_carryAll_143 : decode cX11_carryAll 143 = .ok (.bipush 6, 2) := by decide +kernel
theorem dX11_carryAll_145 : decode cX11_carryAll 145 = .ok (.if_icmp .ge 73, 3) := by decide +kernel
theorem dX11_carryAll_148 : decode cX11_carryAll 148 = .ok (.aload_n 0, 1) := by decide +kernel
theorem dX11_carryAll_149 : decode cX11_carryAll 149 = .ok (.getfield 26, 3) := by decide +kernel
theorem dX11_carryAll_152 : decode cX11_carryAll 152 = .ok (.iload_n 3, 1) := by decide +kernel
theorem dX11_carryAll_153 : decode cX11_carryAll 153 = .ok (.aload_n 0, 1) := by decide +kernel
theorem dX11_carryAll_154 : decode cX11_carryAll 154 = .ok (.aload_n 0, 1) := by decide +kernel
theorem dX11_carryAll_155 : decode cX11_carryAll 155 = .ok (.getfield 26, 3) := by decide +kernel
theorem dX11_carryAll_158 : decode cX11_carryAll 158 = .ok (.iload_n 3, 1) := by decide +kernel
theorem dX11_carryAll_159 : decode cX11_carryAll 159 = .ok (.iaload, 1) := by decide +kernel
theorem dX11_carryAll_160 : decode cX11_carryAll 160 = .ok (.invokevirtual 215, 3) := by decide +kernel
theorem dX11_carryAll_163 : decode cX11_carryAll 163 = .ok (.iastore, 1) := by decide +kernel
theorem dX11_carryAll_164 : decode cX11_carryAll 164 = .ok (.aload_n 0, 1) := by decide +kernel
theorem dX11_carryAll_165 : decode cX11_carryAll 165 = .ok (.getfield 29, 3) := by decide +kernel
theorem dX11_carryAll_168 : decode cX11_carryAll 168 = .ok (.iload_n 3, 1) := by decide +kernel
theorem dX11_carryAll_169 : decode cX11_carryAll 169 = .ok (.aload_n 0, 1) := by decide +kernel
theorem dX11_carryAll_170 : decode cX11_carryAll 170 = .ok (.aload_n 0, 1) := by decide +kernel
theorem dX11_carryAll_171 : decode cX11_carryAll 171 = .ok (.getfield 29, 3) := by decide +kernel
theorem dX11_carryAll_174 : decode cX11_carryAll 174 = .ok (.iload_n 3, 1) := by decide +kernel
theorem dX11_carryAll_175 : decode cX11_carryAll 175 = .ok (.iaload, 1) := by decide +kernel
theorem dX11_carryAll_176 : decode cX11_carryAll 176 = .ok (.invokevirtual 215, 3) := by decide +kernel
theorem dX11_carryAll_179 : decode cX11_carryAll 179 = .ok (.iastore, 1) := by decide +kernel
theorem dX11_carryAll_180 : decode cX11_carryAll 180 = .ok (.aload_n 0, 1) := by decide +kernel
theorem dX11_carryAll_181 : decode cX11_carryAll 181 = .ok (.getfield 32, 3) := by decide +kernel
theorem dX11_carryAll_184 : decode cX11_carryAll 184 = .ok (.iload_n 3, 1) := by decide +kernel
theorem dX11_carryAll_185 : decode cX11_carryAll 185 = .ok (.aload_n 0, 1) := by decide +kernel
theorem dX11_carryAll_186 : decode cX11_carryAll 186 = .ok (.aload_n 0, 1) := by decide +kernel
theorem dX11_carryAll_187 : decode cX11_carryAll 187 = .ok (.getfield 32, 3) := by decide +kernel
theorem dX11_carryAll_190 : decode cX11_carryAll 190 = .ok (.iload_n 3, 1) := by decide +kernel
theorem dX11_carryAll_191 : decode cX11_carryAll 191 = .ok (.iaload, 1) := by decide +kernel
theorem dX11_carryAll_192 : decode cX11_carryAll 192 = .ok (.invokevirtual 215, 3) := by decide +kernel
theorem dX11_carryAll_195 : decode cX11_carryAll 195 = .ok (.iastore, 1) := by decide +kernel
theorem dX11_carryAll_196 : decode cX11_carryAll 196 = .ok (.aload_n 0, 1) := by decide +kernel
theorem dX11_carryAll_197 : decode cX11_carryAll 197 = .ok (.getfield 35, 3) := by decide +kernel
theorem dX11_carryAll_200 : decode cX11_carryAll 200 = .ok (.iload_n 3, 1) := by decide +kernel
theorem dX11_carryAll_201 : decode cX11_carryAll 201 = .ok (.aload_n 0, 1) := by decide +kernel
theorem dX11_carryAll_202 : decode cX11_carryAll 202 = .ok (.aload_n 0, 1) := by decide +kernel
theorem dX11_carryAll_203 : decode cX11_carryAll 203 = .ok (.getfield 35, 3) := by decide +kernel
theorem dX11_carryAll_206 : decode cX11_carryAll 206 = .ok (.iload_n 3, 1) := by decide +kernel
theorem dX11_carryAll_207 : decode cX11_carryAll 207 = .ok (.iaload, 1) := by decide +kernel
theorem dX11_carryAll_208 : decode cX11_carryAll 208 = .ok (.invokevirtual 215, 3) := by decide +kernel
theorem dX11_carryAll_211 : decode cX11_carryAll 211 = .ok (.iastore, 1) := by decide +kernel
theorem dX11_carryAll_212 : decode cX11_carryAll 212 = .ok (.iinc 3 1, 3) := by decide +kernel
theorem dX11_carryAll_215 : decode cX11_carryAll 215 = .ok (.goto (-73), 3) := by decide +kernel
theorem dX11_carryAll_218 : decode cX11_carryAll 218 = .ok (.return_, 1) := by decide +kernel
theorem dX11_think_0 : decode cX11_think 0 = .ok (.aload_n 0, 1) := by decide +kernel
theorem dX11_think_1 : decode cX11_think 1 = .ok (.aload_n 0, 1) := by decide +kernel
theorem dX11_think_2 : decode cX11_think 2 = .ok (.getfield 62, 3) := by decide +kernel
theorem dX11_think_5 : decode cX11_think 5 = .ok (.iconst 1, 1) := by decide +kernel
theorem dX11_think_6 : decode cX11_think 6 = .ok (.invokevirtual 218, 3) := by decide +kernel
theorem dX11_think_9 : decode cX11_think 9 = .ok (.return_, 1) := by decide +kernel
theorem dX11_again_0 : decode cX11_again 0 = .ok (.aload_n 0, 1) := by decide +kernel
theorem dX11_again_1 : decode cX11_again 1 = .ok (.aload_n 0, 1) := by decide +kernel
theorem dX11_again_2 : decode cX11_again 2 = .ok (.getfield 62, 3) := by decide +kernel
theorem dX11_again_5 : decode cX11_again 5 = .ok (.iconst 0, 1) := by decide +kernel
theorem dX11_again_6 : decode cX11_again 6 = .ok (.invokevirtual 218, 3) := by decide +kernel
theorem dX11_again_9 : decode cX11_again 9 = .ok (.return_, 1) := by decide +kernel
theorem dX11_image_0 : decode cX11_image 0 = .ok (.aload_n 0, 1) := by decide +kernel
theorem dX11_image_1 : decode cX11_image 1 = .ok (.iconst 0, 1) := by decide +kernel
theorem dX11_image_2 : decode cX11_image 2 = .ok (.putfield 83, 3) := by decide +kernel
theorem dX11_image_5 : decode cX11_image 5 = .ok (.aload_n 0, 1) := by decide +kernel
theorem dX11_image_6 : decode cX11_image 6 = .ok (.iconst 1, 1) := by decide +kernel
theorem dX11_image_7 : decode cX11_image 7 = .ok (.putfield 222, 3) := by decide +kernel
theorem dX11_image_10 : decode cX11_image 10 = .ok (.aload_n 0, 1) := by decide +kernel
theorem dX11_image_11 : decode cX11_image 11 = .ok (.aload_n 0, 1) := by decide +kernel
theorem dX11_image_12 : decode cX11_image 12 = .ok (.getfield 65, 3) := by decide +kernel
theorem dX11_image_15 : decode cX11_image 15 = .ok (.iconst 1, 1) := by decide +kernel
theorem dX11_image_16 : decode cX11_image 16 = .ok (.invokevirtual 218, 3) := by decide +kernel
theorem dX11_image_19 : decode cX11_image 19 = .ok (.aload_n 0, 1) := by decide +kernel
theorem dX11_image_20 : decode cX11_image 20 = .ok (.getfield 122, 3) := by decide +kernel
theorem dX11_image_23 : decode cX11_image 23 = .ok (.ireturn, 1) := by decide +kernel
theorem dX11_restore_0 : decode cX11_restore 0 = .ok (.aload_n 0, 1) := by decide +kernel
theorem dX11_restore_1 : decode cX11_restore 1 = .ok (.iconst 0, 1) := by decide +kernel
theorem dX11_restore_2 : decode cX11_restore 2 = .ok (.putfield 83, 3) := by decide +kernel
theorem dX11_restore_5 : decode cX11_restore 5 = .ok (.aload_n 0, 1) := by decide +kernel
theorem dX11_restore_6 : decode cX11_restore 6 = .ok (.getfield 222, 3) := by decide +kernel
theorem dX11_restore_9 : decode cX11_restore 9 = .ok (.ifCond .ne 10, 3) := by decide +kernel
theorem dX11_restore_12 : decode cX11_restore 12 = .ok (.aload_n 0, 1) := by decide +kernel
theorem dX11_restore_13 : decode cX11_restore 13 = .ok (.bipush (-3), 2) := by decide +kernel
theorem dX11_restore_15 : decode cX11_restore 15 = .ok (.invokevirtual 134, 3) := by decide +kernel
theorem dX11_restore_18 : decode cX11_restore 18 = .ok (.ireturn, 1) := by decide +kernel
theorem dX11_restore_19 : decode cX11_restore 19 = .ok (.aload_n 0, 1) := by decide +kernel
theorem dX11_restore_20 : decode cX11_restore 20 = .ok (.aload_n 0, 1) := by decide +kernel
theorem dX11_restore_21 : decode cX11_restore 21 = .ok (.getfield 65, 3) := by decide +kernel
theorem dX11_restore_24 : decode cX11_restore 24 = .ok (.iconst 0, 1) := by decide +kernel
theorem dX11_restore_25 : decode cX11_restore 25 = .ok (.invokevirtual 218, 3) := by decide +kernel
theorem dX11_restore_28 : decode cX11_restore 28 = .ok (.aload_n 0, 1) := by decide +kernel
theorem dX11_restore_29 : decode cX11_restore 29 = .ok (.iconst 0, 1) := by decide +kernel
theorem dX11_restore_30 : decode cX11_restore 30 = .ok (.putfield 203, 3) := by decide +kernel
theorem dX11_restore_33 : decode cX11_restore 33 = .ok (.aload_n 0, 1) := by decide +kernel
theorem dX11_restore_34 : decode cX11_restore 34 = .ok (.getfield 122, 3) := by decide +kernel
theorem dX11_restore_37 : decode cX11_restore 37 = .ok (.ireturn, 1) := by decide +kernel
theorem dX11_keepTurn_0 : decode cX11_keepTurn 0 = .ok (.aload_n 0, 1) := by decide +kernel
theorem dX11_keepTurn_1 : decode cX11_keepTurn 1 = .ok (.getfield 203, 3) := by decide +kernel
theorem dX11_keepTurn_4 : decode cX11_keepTurn 4 = .ok (.bipush 8, 2) := by decide +kernel
theorem dX11_keepTurn_6 : decode cX11_keepTurn 6 = .ok (.if_icmp .ne 44, 3) := by decide +kernel
theorem dX11_keepTurn_9 : decode cX11_keepTurn 9 = .ok (.bipush 48, 2) := by decide +kernel
theorem dX11_keepTurn_11 : decode cX11_keepTurn 11 = .ok (.istore_n 1, 1) := by decide +kernel
theorem dX11_keepTurn_12 : decode cX11_keepTurn 12 = .ok (.iload_n 1, 1) := by decide +kernel
theorem dX11_keepTurn_13 : decode cX11_keepTurn 13 = .ok (.sipush 384, 3) := by decide +kernel
theorem dX11_keepTurn_16 : decode cX11_keepTurn 16 = .ok (.if_icmp .ge 24, 3) := by decide +kernel
theorem dX11_keepTurn_19 : decode cX11_keepTurn 19 = .ok (.aload_n 0, 1) := by decide +kernel
theorem dX11_keepTurn_20 : decode cX11_keepTurn 20 = .ok (.getfield 68, 3) := by decide +kernel
theorem dX11_keepTurn_23 : decode cX11_keepTurn 23 = .ok (.iload_n 1, 1) := by decide +kernel
theorem dX11_keepTurn_24 : decode cX11_keepTurn 24 = .ok (.bipush 48, 2) := by decide +kernel
theorem dX11_keepTurn_26 : decode cX11_keepTurn 26 = .ok (.isub, 1) := by decide +kernel
theorem dX11_keepTurn_27 : decode cX11_keepTurn 27 = .ok (.aload_n 0, 1) := by decide +kernel
theorem dX11_keepTurn_28 : decode cX11_keepTurn 28 = .ok (.getfield 68, 3) := by decide +kernel
theorem dX11_keepTurn_31 : decode cX11_keepTurn 31 = .ok (.iload_n 1, 1) := by decide +kernel
theorem dX11_keepTurn_32 : decode cX11_keepTurn 32 = .ok (.iaload, 1) := by decide +kernel
theorem dX11_keepTurn_33 : decode cX11_keepTurn 33 = .ok (.iastore, 1) := by decide +kernel
theorem dX11_keepTurn_34 : decode cX11_keepTurn 34 = .ok (.iinc 1 1, 3) := by decide +kernel
theorem dX11_keepTurn_37 : decode cX11_keepTurn 37 = .ok (.goto (-25), 3) := by decide +kernel
theorem dX11_keepTurn_40 : decode cX11_keepTurn 40 = .ok (.aload_n 0, 1) := by decide +kernel
theorem dX11_keepTurn_41 : decode cX11_keepTurn 41 = .ok (.dup, 1) := by decide +kernel
theorem dX11_keepTurn_42 : decode cX11_keepTurn 42 = .ok (.getfield 203, 3) := by decide +kernel
theorem dX11_keepTurn_45 : decode cX11_keepTurn 45 = .ok (.iconst 1, 1) := by decide +kernel
theorem dX11_keepTurn_46 : decode cX11_keepTurn 46 = .ok (.isub, 1) := by decide +kernel
theorem dX11_keepTurn_47 : decode cX11_keepTurn 47 = .ok (.putfield 203, 3) := by decide +kernel
theorem dX11_keepTurn_50 : decode cX11_keepTurn 50 = .ok (.aload_n 0, 1) := by decide +kernel
theorem dX11_keepTurn_51 : decode cX11_keepTurn 51 = .ok (.aload_n 0, 1) := by decide +kernel
theorem dX11_keepTurn_52 : decode cX11_keepTurn 52 = .ok (.getfield 71, 3) := by decide +kernel
theorem dX11_keepTurn_55 : decode cX11_keepTurn 55 = .ok (.iconst 1, 1) := by decide +kernel
theorem dX11_keepTurn_56 : decode cX11_keepTurn 56 = .ok (.invokevirtual 218, 3) := by decide +kernel
theorem dX11_keepTurn_59 : decode cX11_keepTurn 59 = .ok (.iconst 0, 1) := by decide +kernel
theorem dX11_keepTurn_60 : decode cX11_keepTurn 60 = .ok (.istore_n 1, 1) := by decide +kernel
theorem dX11_keepTurn_61 : decode cX11_keepTurn 61 = .ok (.iload_n 1, 1) := by decide +kernel
theorem dX11_keepTurn_62 : decode cX11_keepTurn 62 = .ok (.bipush 48, 2) := by decide +kernel
theorem dX11_keepTurn_64 : decode cX11_keepTurn 64 = .ok (.if_icmp .ge 29, 3) := by decide +kernel
theorem dX11_keepTurn_67 : decode cX11_keepTurn 67 = .ok (.aload_n 0, 1) := by decide +kernel
theorem dX11_keepTurn_68 : decode cX11_keepTurn 68 = .ok (.getfield 68, 3) := by decide +kernel
theorem dX11_keepTurn_71 : decode cX11_keepTurn 71 = .ok (.bipush 48, 2) := by decide +kernel
theorem dX11_keepTurn_73 : decode cX11_keepTurn 73 = .ok (.aload_n 0, 1) := by decide +kernel
theorem dX11_keepTurn_74 : decode cX11_keepTurn 74 = .ok (.getfield 203, 3) := by decide +kernel
theorem dX11_keepTurn_77 : decode cX11_keepTurn 77 = .ok (.imul, 1) := by decide +kernel
theorem dX11_keepTurn_78 : decode cX11_keepTurn 78 = .ok (.iload_n 1, 1) := by decide +kernel
theorem dX11_keepTurn_79 : decode cX11_keepTurn 79 = .ok (.iadd, 1) := by decide +kernel
theorem dX11_keepTurn_80 : decode cX11_keepTurn 80 = .ok (.aload_n 0, 1) := by decide +kernel
theorem dX11_keepTurn_81 : decode cX11_keepTurn 81 = .ok (.getfield 71, 3) := by decide +kernel
theorem dX11_keepTurn_84 : decode cX11_keepTurn 84 = .ok (.iload_n 1, 1) := by decide +kernel
theorem dX11_keepTurn_85 : decode cX11_keepTurn 85 = .ok (.iaload, 1) := by decide +kernel
theorem dX11_keepTurn_86 : decode cX11_keepTurn 86 = .ok (.iastore, 1) := by decide +kernel
theorem dX11_keepTurn_87 : decode cX11_keepTurn 87 = .ok (.iinc 1 1, 3) := by decide +kernel
theorem dX11_keepTurn_90 : decode cX11_keepTurn 90 = .ok (.goto (-29), 3) := by decide +kernel
theorem dX11_keepTurn_93 : decode cX11_keepTurn 93 = .ok (.aload_n 0, 1) := by decide +kernel
theorem dX11_keepTurn_94 : decode cX11_keepTurn 94 = .ok (.dup, 1) := by decide +kernel
theorem dX11_keepTurn_95 : decode cX11_keepTurn 95 = .ok (.getfield 203, 3) := by decide +kernel
theorem dX11_keepTurn_98 : decode cX11_keepTurn 98 = .ok (.iconst 1, 1) := by decide +kernel
theorem dX11_keepTurn_99 : decode cX11_keepTurn 99 = .ok (.iadd, 1) := by decide +kernel
theorem dX11_keepTurn_100 : decode cX11_keepTurn 100 = .ok (.putfield 203, 3) := by decide +kernel
theorem dX11_keepTurn_103 : decode cX11_keepTurn 103 = .ok (.return_, 1) := by decide +kernel
theorem dX11_back_0 : decode cX11_back 0 = .ok (.aload_n 0, 1) := by decide +kernel
theorem dX11_back_1 : decode cX11_back 1 = .ok (.iconst 0, 1) := by decide +kernel
theorem dX11_back_2 : decode cX11_back 2 = .ok (.putfield 83, 3) := by decide +kernel
theorem dX11_back_5 : decode cX11_back 5 = .ok (.aload_n 0, 1) := by decide +kernel
theorem dX11_back_6 : decode cX11_back 6 = .ok (.getfield 203, 3) := by decide +kernel
theorem dX11_back_9 : decode cX11_back 9 = .ok (.ifCond .ne 10, 3) := by decide +kernel
theorem dX11_back_12 : decode cX11_back 12 = .ok (.aload_n 0, 1) := by decide +kernel
theorem dX11_back_13 : decode cX11_back 13 = .ok (.bipush (-3), 2) := by decide +kernel
theorem dX11_back_15 : decode cX11_back 15 = .ok (.invokevirtual 134, 3) := by decide +kernel
theorem dX11_back_18 : decode cX11_back 18 = .ok (.ireturn, 1) := by decide +kernel
theorem dX11_back_19 : decode cX11_back 19 = .ok (.aload_n 0, 1) := by decide +kernel
theorem dX11_back_20 : decode cX11_back 20 = .ok (.dup, 1) := by decide +kernel
theorem dX11_back_21 : decode cX11_back 21 = .ok (.getfield 203, 3) := by decide +kernel
theorem dX11_back_24 : decode cX11_back 24 = .ok (.iconst 1, 1) := by decide +kernel
theorem dX11_back_25 : decode cX11_back 25 = .ok (.isub, 1) := by decide +kernel
theorem dX11_back_26 : decode cX11_back 26 = .ok (.putfield 203, 3) := by decide +kernel
theorem dX11_back_29 : decode cX11_back 29 = .ok (.iconst 0, 1) := by decide +kernel
theorem dX11_back_30 : decode cX11_back 30 = .ok (.istore_n 1, 1) := by decide +kernel
theorem dX11_back_31 : decode cX11_back 31 = .ok (.iload_n 1, 1) := by decide +kernel
theorem dX11_back_32 : decode cX11_back 32 = .ok (.bipush 48, 2) := by decide +kernel
theorem dX11_back_34 : decode cX11_back 34 = .ok (.if_icmp .ge 29, 3) := by decide +kernel
theorem dX11_back_37 : decode cX11_back 37 = .ok (.aload_n 0, 1) := by decide +kernel
theorem dX11_back_38 : decode cX11_back 38 = .ok (.getfield 71, 3) := by decide +kernel
theorem dX11_back_41 : decode cX11_back 41 = .ok (.iload_n 1, 1) := by decide +kernel
theorem dX11_back_42 : decode cX11_back 42 = .ok (.aload_n 0, 1) := by decide +kernel
theorem dX11_back_43 : decode cX11_back 43 = .ok (.getfield 68, 3) := by decide +kernel
theorem dX11_back_46 : decode cX11_back 46 = .ok (.bipush 48, 2) := by decide +kernel
theorem dX11_back_48 : decode cX11_back 48 = .ok (.aload_n 0, 1) := by decide +kernel
theorem dX11_back_49 : decode cX11_back 49 = .ok (.getfield 203, 3) := by decide +kernel
theorem dX11_back_52 : decode cX11_back 52 = .ok (.imul, 1) := by decide +kernel
theorem dX11_back_53 : decode cX11_back 53 = .ok (.iload_n 1, 1) := by decide +kernel
theorem dX11_back_54 : decode cX11_back 54 = .ok (.iadd, 1) := by decide +kernel
theorem dX11_back_55 : decode cX11_back 55 = .ok (.iaload, 1) := by decide +kernel
theorem dX11_back_56 : decode cX11_back 56 = .ok (.iastore, 1) := by decide +kernel
theorem dX11_back_57 : decode cX11_back 57 = .ok (.iinc 1 1, 3) := by decide +kernel
theorem dX11_back_60 : decode cX11_back 60 = .ok (.goto (-29), 3) := by decide +kernel
theorem dX11_back_63 : decode cX11_back 63 = .ok (.aload_n 0, 1) := by decide +kernel
theorem dX11_back_64 : decode cX11_back 64 = .ok (.aload_n 0, 1) := by decide +kernel
theorem dX11_back_65 : decode cX11_back 65 = .ok (.getfield 71, 3) := by decide +kernel
theorem dX11_back_68 : decode cX11_back 68 = .ok (.iconst 0, 1) := by decide +kernel
theorem dX11_back_69 : decode cX11_back 69 = .ok (.invokevirtual 218, 3) := by decide +kernel
theorem dX11_back_72 : decode cX11_back 72 = .ok (.aload_n 0, 1) := by decide +kernel
theorem dX11_back_73 : decode cX11_back 73 = .ok (.getfield 203, 3) := by decide +kernel
theorem dX11_back_76 : decode cX11_back 76 = .ok (.ireturn, 1) := by decide +kernel
theorem dX11_familyOf_0 : decode cX11_familyOf 0 = .ok (.aload_n 0, 1) := by decide +kernel
theorem dX11_familyOf_1 : decode cX11_familyOf 1 = .ok (.iconst 0, 1) := by decide +kernel
theorem dX11_familyOf_2 : decode cX11_familyOf 2 = .ok (.putfield 83, 3) := by decide +kernel
theorem dX11_familyOf_5 : decode cX11_familyOf 5 = .ok (.aload_n 0, 1) := by decide +kernel
theorem dX11_familyOf_6 : decode cX11_familyOf 6 = .ok (.iload_n 1, 1) := by decide +kernel
theorem dX11_familyOf_7 : decode cX11_familyOf 7 = .ok (.invokevirtual 188, 3) := by decide +kernel
theorem dX11_familyOf_10 : decode cX11_familyOf 10 = .ok (.ifCond .eq 15, 3) := by decide +kernel
theorem dX11_familyOf_13 : decode cX11_familyOf 13 = .ok (.iload_n 2, 1) := by decide +kernel
theorem dX11_familyOf_14 : decode cX11_familyOf 14 = .ok (.i2l, 1) := by decide +kernel
theorem dX11_familyOf_15 : decode cX11_familyOf 15 = .ok (.lconst 0, 1) := by decide +kernel
theorem dX11_familyOf_16 : decode cX11_familyOf 16 = .ok (.ldc2_w 225, 3) := by decide +kernel
theorem dX11_familyOf_19 : decode cX11_familyOf 19 = .ok (.invokestatic 89, 3) := by decide +kernel
theorem dX11_familyOf_22 : decode cX11_familyOf 22 = .ok (.ifCond .ne 22, 3) := by decide +kernel
theorem dX11_familyOf_25 : decode cX11_familyOf 25 = .ok (.aload_n 0, 1) := by decide +kernel
theorem dX11_familyOf_26 : decode cX11_familyOf 26 = .ok (.aload_n 0, 1) := by decide +kernel
theorem dX11_familyOf_27 : decode cX11_familyOf 27 = .ok (.iload_n 1, 1) := by decide +kernel
theorem dX11_familyOf_28 : decode cX11_familyOf 28 = .ok (.invokevirtual 188, 3) := by decide +kernel
theorem dX11_familyOf_31 : decode cX11_familyOf 31 = .ok (.ifCond .eq 8, 3) := by decide +kernel
theorem dX11_familyOf_34 : decode cX11_familyOf 34 = .ok (.bipush (-2), 2) := by decide +kernel
theorem dX11_familyOf_36 : decode cX11_familyOf 36 = .ok (.goto 4, 3) := by decide +kernel
theorem dX11_familyOf_39 : decode cX11_familyOf 39 = .ok (.iconst (-1), 1) := by decide +kernel
theorem dX11_familyOf_40 : decode cX11_familyOf 40 = .ok (.invokevirtual 134, 3) := by decide +kernel
theorem dX11_familyOf_43 : decode cX11_familyOf 43 = .ok (.ireturn, 1) := by decide +kernel
theorem dX11_familyOf_44 : decode cX11_familyOf 44 = .ok (.iload_n 2, 1) := by decide +kernel
theorem dX11_familyOf_45 : decode cX11_familyOf 45 = .ok (.ifCond .ne 12, 3) := by decide +kernel
theorem dX11_familyOf_48 : decode cX11_familyOf 48 = .ok (.aload_n 0, 1) := by decide +kernel
theorem dX11_familyOf_49 : decode cX11_familyOf 49 = .ok (.getfield 7, 3) := by decide +kernel
theorem dX11_familyOf_52 : decode cX11_familyOf 52 = .ok (.iload_n 1, 1) := by decide +kernel
theorem dX11_familyOf_53 : decode cX11_familyOf 53 = .ok (.iaload, 1) := by decide +kernel
theorem dX11_familyOf_54 : decode cX11_familyOf 54 = .ok (.goto 50, 3) := by decide +kernel
theorem dX11_familyOf_57 : decode cX11_familyOf 57 = .ok (.iload_n 2, 1) := by decide +kernel
theorem dX11_familyOf_58 : decode cX11_familyOf 58 = .ok (.iconst 1, 1) := by decide +kernel
theorem dX11_familyOf_59 : decode cX11_familyOf 59 = .ok (.if_icmp .ne 12, 3) := by decide +kernel
theorem dX11_familyOf_62 : decode cX11_familyOf 62 = .ok (.aload_n 0, 1) := by decide +kernel
theorem dX11_familyOf_63 : decode cX11_familyOf 63 = .ok (.getfield 13, 3) := by decide +kernel
theorem dX11_familyOf_66 : decode cX11_familyOf 66 = .ok (.iload_n 1, 1) := by decide +kernel
theorem dX11_familyOf_67 : decode cX11_familyOf 67 = .ok (.iaload, 1) := by decide +kernel
theorem dX11_familyOf_68 : decode cX11_familyOf 68 = .ok (.goto 36, 3) := by decide +kernel
theorem dX11_familyOf_71 : decode cX11_familyOf 71 = .ok (.iload_n 2, 1) := by decide +kernel
theorem dX11_familyOf_72 : decode cX11_familyOf 72 = .ok (.iconst 2, 1) := by decide +kernel
theorem dX11_familyOf_73 : decode cX11_familyOf 73 = .ok (.if_icmp .ne 12, 3) := by decide +kernel
theorem dX11_familyOf_76 : decode cX11_familyOf 76 = .ok (.aload_n 0, 1) := by decide +kernel
theorem dX11_familyOf_77 : decode cX11_familyOf 77 = .ok (.getfield 16, 3) := by decide +kernel
theorem dX11_familyOf_80 : decode cX11_familyOf 80 = .ok (.iload_n 1, 1) := by decide +kernel
theorem dX11_familyOf_81 : decode cX11_familyOf 81 = .ok (.iaload, 1) := by decide +kernel
theorem dX11_familyOf_82 : decode cX11_familyOf 82 = .ok (.goto 22, 3) := by decide +kernel
theorem dX11_familyOf_85 : decode cX11_familyOf 85 = .ok (.iload_n 2, 1) := by decide +kernel
theorem dX11_familyOf_86 : decode cX11_familyOf 86 = .ok (.iconst 3, 1) := by decide +kernel
theorem dX11_familyOf_87 : decode cX11_familyOf 87 = .ok (.if_icmp .ne 12, 3) := by decide +kernel
theorem dX11_familyOf_90 : decode cX11_familyOf 90 = .ok (.aload_n 0, 1) := by decide +kernel
theorem dX11_familyOf_91 : decode cX11_familyOf 91 = .ok (.getfield 19, 3) := by decide +kernel
theorem dX11_familyOf_94 : decode cX11_familyOf 94 = .ok (.iload_n 1, 1) := by decide +kernel
theorem dX11_familyOf_95 : decode cX11_familyOf 95 = .ok (.iaload, 1) := by decide +kernel
theorem dX11_familyOf_96 : decode cX11_familyOf 96 = .ok (.goto 8, 3) := by decide +kernel
theorem dX11_familyOf_99 : decode cX11_familyOf 99 = .ok (.aload_n 0, 1) := by decide +kernel
theorem dX11_familyOf_100 : decode cX11_familyOf 100 = .ok (.iload_n 1, 1) := by decide +kernel
theorem dX11_familyOf_101 : decode cX11_familyOf 101 = .ok (.invokevirtual 227, 3) := by decide +kernel
theorem dX11_familyOf_104 : decode cX11_familyOf 104 = .ok (.ireturn, 1) := by decide +kernel
theorem dX11_workOf_0 : decode cX11_workOf 0 = .ok (.aload_n 0, 1) := by decide +kernel
theorem dX11_workOf_1 : decode cX11_workOf 1 = .ok (.iconst 0, 1) := by decide +kernel
theorem dX11_workOf_2 : decode cX11_workOf 2 = .ok (.putfield 83, 3) := by decide +kernel
theorem dX11_workOf_5 : decode cX11_workOf 5 = .ok (.aload_n 0, 1) := by decide +kernel
theorem dX11_workOf_6 : decode cX11_workOf 6 = .ok (.iload_n 1, 1) := by decide +kernel
theorem dX11_workOf_7 : decode cX11_workOf 7 = .ok (.invokevirtual 177, 3) := by decide +kernel
theorem dX11_workOf_10 : decode cX11_workOf 10 = .ok (.ifCond .eq 15, 3) := by decide +kernel
theorem dX11_workOf_13 : decode cX11_workOf 13 = .ok (.iload_n 2, 1) := by decide +kernel
theorem dX11_workOf_14 : decode cX11_workOf 14 = .ok (.i2l, 1) := by decide +kernel
theorem dX11_workOf_15 : decode cX11_workOf 15 = .ok (.lconst 0, 1) := by decide +kernel
theorem dX11_workOf_16 : decode cX11_workOf 16 = .ok (.ldc2_w 225, 3) := by decide +kernel
theorem dX11_workOf_19 : decode cX11_workOf 19 = .ok (.invokestatic 89, 3) := by decide +kernel
theorem dX11_workOf_22 : decode cX11_workOf 22 = .ok (.ifCond .ne 22, 3) := by decide +kernel
theorem dX11_workOf_25 : decode cX11_workOf 25 = .ok (.aload_n 0, 1) := by decide +kernel
theorem dX11_workOf_26 : decode cX11_workOf 26 = .ok (.aload_n 0, 1) := by decide +kernel
theorem dX11_workOf_27 : decode cX11_workOf 27 = .ok (.iload_n 1, 1) := by decide +kernel
theorem dX11_workOf_28 : decode cX11_workOf 28 = .ok (.invokevirtual 177, 3) := by decide +kernel
theorem dX11_workOf_31 : decode cX11_workOf 31 = .ok (.ifCond .eq 8, 3) := by decide +kernel
theorem dX11_workOf_34 : decode cX11_workOf 34 = .ok (.bipush (-2), 2) := by decide +kernel
theorem dX11_workOf_36 : decode cX11_workOf 36 = .ok (.goto 4, 3) := by decide +kernel
theorem dX11_workOf_39 : decode cX11_workOf 39 = .ok (.iconst (-1), 1) := by decide +kernel
theorem dX11_workOf_40 : decode cX11_workOf 40 = .ok (.invokevirtual 134, 3) := by decide +kernel
theorem dX11_workOf_43 : decode cX11_workOf 43 = .ok (.ireturn, 1) := by decide +kernel
theorem dX11_workOf_44 : decode cX11_workOf 44 = .ok (.iload_n 2, 1) := by decide +kernel
theorem dX11_workOf_45 : decode cX11_workOf 45 = .ok (.ifCond .ne 12, 3) := by decide +kernel
theorem dX11_workOf_48 : decode cX11_workOf 48 = .ok (.aload_n 0, 1) := by decide +kernel
theorem dX11_workOf_49 : decode cX11_workOf 49 = .ok (.getfield 26, 3) := by decide +kernel
theorem dX11_workOf_52 : decode cX11_workOf 52 = .ok (.iload_n 1, 1) := by decide +kernel
theorem dX11_workOf_53 : decode cX11_workOf 53 = .ok (.iaload, 1) := by decide +kernel
theorem dX11_workOf_54 : decode cX11_workOf 54 = .ok (.goto 58, 3) := by decide +kernel
theorem dX11_workOf_57 : decode cX11_workOf 57 = .ok (.iload_n 2, 1) := by decide +kernel
theorem dX11_workOf_58 : decode cX11_workOf 58 = .ok (.iconst 1, 1) := by decide +kernel
theorem dX11_workOf_59 : decode cX11_workOf 59 = .ok (.if_icmp .ne 12, 3) := by decide +kernel
theorem dX11_workOf_62 : decode cX11_workOf 62 = .ok (.aload_n 0, 1) := by decide +kernel
theorem dX11_workOf_63 : decode cX11_workOf 63 = .ok (.getfield 29, 3) := by decide +kernel
theorem dX11_workOf_66 : decode cX11_workOf 66 = .ok (.iload_n 1, 1) := by decide +kernel
theorem dX11_workOf_67 : decode cX11_workOf 67 = .ok (.iaload, 1) := by decide +kernel
theorem dX11_workOf_68 : decode cX11_workOf 68 = .ok (.goto 44, 3) := by decide +kernel
theorem dX11_workOf_71 : decode cX11_workOf 71 = .ok (.iload_n 2, 1) := by decide +kernel
theorem dX11_workOf_72 : decode cX11_workOf 72 = .ok (.iconst 2, 1) := by decide +kernel
theorem dX11_workOf_73 : decode cX11_workOf 73 = .ok (.if_icmp .ne 12, 3) := by decide +kernel
theorem dX11_workOf_76 : decode cX11_workOf 76 = .ok (.aload_n 0, 1) := by decide +kernel
theorem dX11_workOf_77 : decode cX11_workOf 77 = .ok (.getfield 32, 3) := by decide +kernel
theorem dX11_workOf_80 : decode cX11_workOf 80 = .ok (.iload_n 1, 1) := by decide +kernel
theorem dX11_workOf_81 : decode cX11_workOf 81 = .ok (.iaload, 1) := by decide +kernel
theorem dX11_workOf_82 : decode cX11_workOf 82 = .ok (.goto 30, 3) := by decide +kernel
theorem dX11_workOf_85 : decode cX11_workOf 85 = .ok (.iload_n 2, 1) := by decide +kernel
theorem dX11_workOf_86 : decode cX11_workOf 86 = .ok (.iconst 3, 1) := by decide +kernel
theorem dX11_workOf_87 : decode cX11_workOf 87 = .ok (.if_icmp .ne 11, 3) := by decide +kernel
theorem dX11_workOf_90 : decode cX11_workOf 90 = .ok (.aload_n 0, 1) := by decide +kernel
theorem dX11_workOf_91 : decode cX11_workOf 91 = .ok (.iload_n 1, 1) := by decide +kernel
theorem dX11_workOf_92 : decode cX11_workOf 92 = .ok (.invokevirtual 112, 3) := by decide +kernel
theorem dX11_workOf_95 : decode cX11_workOf 95 = .ok (.goto 17, 3) := by decide +kernel
theorem dX11_workOf_98 : decode cX11_workOf 98 = .ok (.aload_n 0, 1) := by decide +kernel
theorem dX11_workOf_99 : decode cX11_workOf 99 = .ok (.getfield 35, 3) := by decide +kernel
theorem dX11_workOf_102 : decode cX11_workOf 102 = .ok (.iload_n 1, 1) := by decide +kernel
theorem dX11_workOf_103 : decode cX11_workOf 103 = .ok (.iaload, 1) := by decide +kernel
theorem dX11_workOf_104 : decode cX11_workOf 104 = .ok (.ifCond .le 7, 3) := by decide +kernel
theorem dX11_workOf_107 : decode cX11_workOf 107 = .ok (.iconst 1, 1) := by decide +kernel
theorem dX11_workOf_108 : decode cX11_workOf 108 = .ok (.goto 4, 3) := by decide +kernel
theorem dX11_workOf_111 : decode cX11_workOf 111 = .ok (.iconst 0, 1) := by decide +kernel
theorem dX11_workOf_112 : decode cX11_workOf 112 = .ok (.ireturn, 1) := by decide +kernel
theorem dX11_family_0 : decode cX11_family 0 = .ok (.aload_n 0, 1) := by decide +kernel
theorem dX11_family_1 : decode cX11_family 1 = .ok (.iconst 0, 1) := by decide +kernel
theorem dX11_family_2 : decode cX11_family 2 = .ok (.putfield 83, 3) := by decide +kernel
theorem dX11_family_5 : decode cX11_family 5 = .ok (.iconst 0, 1) := by decide +kernel
theorem dX11_family_6 : decode cX11_family 6 = .ok (.istore 4, 2) := by decide +kernel
theorem dX11_family_8 : decode cX11_family 8 = .ok (.iload_n 1, 1) := by decide +kernel
theorem dX11_family_9 : decode cX11_family 9 = .ok (.iconst 1, 1) := by decide +kernel
theorem dX11_family_10 : decode cX11_family 10 = .ok (.if_icmp .lt 11, 3) := by decide +kernel
theorem dX11_family_13 : decode cX11_family 13 = .ok (.iload_n 2, 1) := by decide +kernel
theorem dX11_family_14 : decode cX11_family 14 = .ok (.ifCond .lt 7, 3) := by decide +kernel
theorem dX11_family_17 : decode cX11_family 17 = .ok (.iload_n 3, 1) := by decide +kernel
theorem dX11_family_18 : decode cX11_family 18 = .ok (.ifCond .ge 10, 3) := by decide +kernel
theorem dX11_family_21 : decode cX11_family 21 = .ok (.bipush (-4), 2) := by decide +kernel
theorem dX11_family_23 : decode cX11_family 23 = .ok (.istore 4, 2) := by decide +kernel
theorem dX11_family_25 : decode cX11_family 25 = .ok (.goto 33, 3) := by decide +kernel
theorem dX11_family_28 : decode cX11_family 28 = .ok (.iload_n 1, 1) := by decide +kernel
theorem dX11_family_29 : decode cX11_family 29 = .ok (.bipush 20, 2) := by decide +kernel
theorem dX11_family_31 : decode cX11_family 31 = .ok (.if_icmp .gt 23, 3) := by decide +kernel
theorem dX11_family_34 : decode cX11_family 34 = .ok (.iload_n 2, 1) := by decide +kernel
theorem dX11_family_35 : decode cX11_family 35 = .ok (.bipush 9, 2) := by decide +kernel
theorem dX11_family_37 : decode cX11_family 37 = .ok (.if_icmp .gt 17, 3) := by decide +kernel
theorem dX11_family_40 : decode cX11_family 40 = .ok (.iload_n 3, 1) := by decide +kernel
theorem dX11_family_41 : decode cX11_family 41 = .ok (.bipush 9, 2) := by decide +kernel
theorem dX11_family_43 : decode cX11_family 43 = .ok (.if_icmp .gt 11, 3) := by decide +kernel
theorem dX11_family_46 : decode cX11_family 46 = .ok (.aload_n 0, 1) := by decide +kernel
theorem dX11_family_47 : decode cX11_family 47 = .ok (.getfield 86, 3) := by decide +kernel
theorem dX11_family_50 : decode cX11_family 50 = .ok (.iconst 5, 1) := by decide +kernel
theorem dX11_family_51 : decode cX11_family 51 = .ok (.if_icmp .ne 7, 3) := by decide +kernel
theorem dX11_family_54 : decode cX11_family 54 = .ok (.bipush (-6), 2) := by decide +kernel
theorem dX11_family_56 : decode cX11_family 56 = .ok (.istore 4, 2) := by decide +kernel
theorem dX11_family_58 : decode cX11_family 58 = .ok (.iload 4, 2) := by decide +kernel
theorem dX11_family_60 : decode cX11_family 60 = .ok (.ifCond .ge 10, 3) := by decide +kernel
theorem dX11_family_63 : decode cX11_family 63 = .ok (.aload_n 0, 1) := by decide +kernel
theorem dX11_family_64 : decode cX11_family 64 = .ok (.iload 4, 2) := by decide +kernel
theorem dX11_family_66 : decode cX11_family 66 = .ok (.invokevirtual 134, 3) := by decide +kernel
theorem dX11_family_69 : decode cX11_family 69 = .ok (.ireturn, 1) := by decide +kernel
theorem dX11_family_70 : decode cX11_family 70 = .ok (.aload_n 0, 1) := by decide +kernel
theorem dX11_family_71 : decode cX11_family 71 = .ok (.iload_n 1, 1) := by decide +kernel
theorem dX11_family_72 : decode cX11_family 72 = .ok (.iload_n 2, 1) := by decide +kernel
theorem dX11_family_73 : decode cX11_family 73 = .ok (.iload_n 3, 1) := by decide +kernel
theorem dX11_family_74 : decode cX11_family 74 = .ok (.invokevirtual 170, 3) := by decide +kernel
theorem dX11_family_77 : decode cX11_family 77 = .ok (.aload_n 0, 1) := by decide +kernel
theorem dX11_family_78 : decode cX11_family 78 = .ok (.iconst 0, 1) := by decide +kernel
theorem dX11_family_79 : decode cX11_family 79 = .ok (.putfield 203, 3) := by decide +kernel
theorem dX11_family_82 : decode cX11_family 82 = .ok (.aload_n 0, 1) := by decide +kernel
theorem dX11_family_83 : decode cX11_family 83 = .ok (.getfield 86, 3) := by decide +kernel
theorem dX11_family_86 : decode cX11_family 86 = .ok (.iconst 1, 1) := by decide +kernel
theorem dX11_family_87 : decode cX11_family 87 = .ok (.isub, 1) := by decide +kernel
theorem dX11_family_88 : decode cX11_family 88 = .ok (.ireturn, 1) := by decide +kernel
theorem dX11_work_0 : decode cX11_work 0 = .ok (.aload_n 0, 1) := by decide +kernel
theorem dX11_work_1 : decode cX11_work 1 = .ok (.iconst 0, 1) := by decide +kernel
theorem dX11_work_2 : decode cX11_work 2 = .ok (.putfield 83, 3) := by decide +kernel
theorem dX11_work_5 : decode cX11_work 5 = .ok (.iconst 0, 1) := by decide +kernel
theorem dX11_work_6 : decode cX11_work 6 = .ok (.istore 4, 2) := by decide +kernel
theorem dX11_work_8 : decode cX11_work 8 = .ok (.iload_n 1, 1) := by decide +kernel
theorem dX11_work_9 : decode cX11_work 9 = .ok (.i2l, 1) := by decide +kernel
theorem dX11_work_10 : decode cX11_work 10 = .ok (.lconst 0, 1) := by decide +kernel
theorem dX11_work_11 : decode cX11_work 11 = .ok (.ldc2_w 230, 3) := by decide +kernel
theorem dX11_work_14 : decode cX11_work 14 = .ok (.invokestatic 89, 3) := by decide +kernel
theorem dX11_work_17 : decode cX11_work 17 = .ok (.ifCond .ne 10, 3) := by decide +kernel
theorem dX11_work_20 : decode cX11_work 20 = .ok (.bipush (-2), 2) := by decide +kernel
theorem dX11_work_22 : decode cX11_work 22 = .ok (.istore 4, 2) := by decide +kernel
theorem dX11_work_24 : decode cX11_work 24 = .ok (.goto 45, 3) := by decide +kernel
theorem dX11_work_27 : decode cX11_work 27 = .ok (.iload_n 2, 1) := by decide +kernel
theorem dX11_work_28 : decode cX11_work 28 = .ok (.ifCond .lt 8, 3) := by decide +kernel
theorem dX11_work_31 : decode cX11_work 31 = .ok (.iload_n 3, 1) := by decide +kernel
theorem dX11_work_32 : decode cX11_work 32 = .ok (.iconst 1, 1) := by decide +kernel
theorem dX11_work_33 : decode cX11_work 33 = .ok (.if_icmp .ge 10, 3) := by decide +kernel
theorem dX11_work_36 : decode cX11_work 36 = .ok (.bipush (-4), 2) := by decide +kernel
theorem dX11_work_38 : decode cX11_work 38 = .ok (.istore 4, 2) := by decide +kernel
theorem dX11_work_40 : decode cX11_work 40 = .ok (.goto 29, 3) := by decide +kernel
theorem dX11_work_43 : decode cX11_work 43 = .ok (.iload_n 2, 1) := by decide +kernel
theorem dX11_work_44 : decode cX11_work 44 = .ok (.bipush 9, 2) := by decide +kernel
theorem dX11_work_46 : decode cX11_work 46 = .ok (.if_icmp .gt 19, 3) := by decide +kernel
theorem dX11_work_49 : decode cX11_work 49 = .ok (.iload_n 3, 1) := by decide +kernel
theorem dX11_work_50 : decode cX11_work 50 = .ok (.sipush 999, 3) := by decide +kernel
theorem dX11_work_53 : decode cX11_work 53 = .ok (.if_icmp .gt 12, 3) := by decide +kernel
theorem dX11_work_56 : decode cX11_work 56 = .ok (.aload_n 0, 1) := by decide +kernel
theorem dX11_work_57 : decode cX11_work 57 = .ok (.getfield 93, 3) := by decide +kernel
theorem dX11_work_60 : decode cX11_work 60 = .ok (.bipush 6, 2) := by decide +kernel
theorem dX11_work_62 : decode cX11_work 62 = .ok (.if_icmp .ne 7, 3) := by decide +kernel
theorem dX11_work_65 : decode cX11_work 65 = .ok (.bipush (-6), 2) := by decide +kernel
theorem dX11_work_67 : decode cX11_work 67 = .ok (.istore 4, 2) := by decide +kernel
theorem dX11_work_69 : decode cX11_work 69 = .ok (.iload 4, 2) := by decide +kernel
theorem dX11_work_71 : decode cX11_work 71 = .ok (.ifCond .ge 10, 3) := by decide +kernel
theorem dX11_work_74 : decode cX11_work 74 = .ok (.aload_n 0, 1) := by decide +kernel
theorem dX11_work_75 : decode cX11_work 75 = .ok (.iload 4, 2) := by decide +kernel
theorem dX11_work_77 : decode cX11_work 77 = .ok (.invokevirtual 134, 3) := by decide +kernel
theorem dX11_work_80 : decode cX11_work 80 = .ok (.ireturn, 1) := by decide +kernel
theorem dX11_work_81 : decode cX11_work 81 = .ok (.aload_n 0, 1) := by decide +kernel
theorem dX11_work_82 : decode cX11_work 82 = .ok (.iload_n 1, 1) := by decide +kernel
theorem dX11_work_83 : decode cX11_work 83 = .ok (.iload_n 2, 1) := by decide +kernel
theorem dX11_work_84 : decode cX11_work 84 = .ok (.iload_n 3, 1) := by decide +kernel
theorem dX11_work_85 : decode cX11_work 85 = .ok (.invokevirtual 174, 3) := by decide +kernel
theorem dX11_work_88 : decode cX11_work 88 = .ok (.aload_n 0, 1) := by decide +kernel
theorem dX11_work_89 : decode cX11_work 89 = .ok (.iconst 0, 1) := by decide +kernel
theorem dX11_work_90 : decode cX11_work 90 = .ok (.putfield 203, 3) := by decide +kernel
theorem dX11_work_93 : decode cX11_work 93 = .ok (.aload_n 0, 1) := by decide +kernel
theorem dX11_work_94 : decode cX11_work 94 = .ok (.getfield 93, 3) := by decide +kernel
theorem dX11_work_97 : decode cX11_work 97 = .ok (.iconst 1, 1) := by decide +kernel
theorem dX11_work_98 : decode cX11_work 98 = .ok (.isub, 1) := by decide +kernel
theorem dX11_work_99 : decode cX11_work 99 = .ok (.ireturn, 1) := by decide +kernel
theorem dX11_builds_0 : decode cX11_builds 0 = .ok (.aload_n 0, 1) := by decide +kernel
theorem dX11_builds_1 : decode cX11_builds 1 = .ok (.iconst 0, 1) := by decide +kernel
theorem dX11_builds_2 : decode cX11_builds 2 = .ok (.putfield 83, 3) := by decide +kernel
theorem dX11_builds_5 : decode cX11_builds 5 = .ok (.aload_n 0, 1) := by decide +kernel
theorem dX11_builds_6 : decode cX11_builds 6 = .ok (.iload_n 1, 1) := by decide +kernel
theorem dX11_builds_7 : decode cX11_builds 7 = .ok (.invokevirtual 177, 3) := by decide +kernel
theorem dX11_builds_10 : decode cX11_builds 10 = .ok (.ifCond .ne 7, 3) := by decide +kernel
theorem dX11_builds_13 : decode cX11_builds 13 = .ok (.iconst (-1), 1) := by decide +kernel
theorem dX11_builds_14 : decode cX11_builds 14 = .ok (.goto 18, 3) := by decide +kernel
theorem dX11_builds_17 : decode cX11_builds 17 = .ok (.aload_n 0, 1) := by decide +kernel
theorem dX11_builds_18 : decode cX11_builds 18 = .ok (.getfield 35, 3) := by decide +kernel
theorem dX11_builds_21 : decode cX11_builds 21 = .ok (.iload_n 1, 1) := by decide +kernel
theorem dX11_builds_22 : decode cX11_builds 22 = .ok (.iaload, 1) := by decide +kernel
theorem dX11_builds_23 : decode cX11_builds 23 = .ok (.ifCond .le 8, 3) := by decide +kernel
theorem dX11_builds_26 : decode cX11_builds 26 = .ok (.bipush (-3), 2) := by decide +kernel
theorem dX11_builds_28 : decode cX11_builds 28 = .ok (.goto 4, 3) := by decide +kernel
theorem dX11_builds_31 : decode cX11_builds 31 = .ok (.iconst 0, 1) := by decide +kernel
theorem dX11_builds_32 : decode cX11_builds 32 = .ok (.istore_n 2, 1) := by decide +kernel
theorem dX11_builds_33 : decode cX11_builds 33 = .ok (.iload_n 2, 1) := by decide +kernel
theorem dX11_builds_34 : decode cX11_builds 34 = .ok (.ifCond .ge 9, 3) := by decide +kernel
theorem dX11_builds_37 : decode cX11_builds 37 = .ok (.aload_n 0, 1) := by decide +kernel
theorem dX11_builds_38 : decode cX11_builds 38 = .ok (.iload_n 2, 1) := by decide +kernel
theorem dX11_builds_39 : decode cX11_builds 39 = .ok (.invokevirtual 134, 3) := by decide +kernel
theorem dX11_builds_42 : decode cX11_builds 42 = .ok (.ireturn, 1) := by decide +kernel
theorem dX11_builds_43 : decode cX11_builds 43 = .ok (.aload_n 0, 1) := by decide +kernel
theorem dX11_builds_44 : decode cX11_builds 44 = .ok (.invokevirtual 232, 3) := by decide +kernel
theorem dX11_builds_47 : decode cX11_builds 47 = .ok (.aload_n 0, 1) := by decide +kernel
theorem dX11_builds_48 : decode cX11_builds 48 = .ok (.iload_n 1, 1) := by decide +kernel
theorem dX11_builds_49 : decode cX11_builds 49 = .ok (.invokevirtual 180, 3) := by decide +kernel
theorem dX11_builds_52 : decode cX11_builds 52 = .ok (.aload_n 0, 1) := by decide +kernel
theorem dX11_builds_53 : decode cX11_builds 53 = .ok (.invokevirtual 235, 3) := by decide +kernel
theorem dX11_builds_56 : decode cX11_builds 56 = .ok (.ireturn, 1) := by decide +kernel
theorem dX11_years_0 : decode cX11_years 0 = .ok (.aload_n 0, 1) := by decide +kernel
theorem dX11_years_1 : decode cX11_years 1 = .ok (.iconst 0, 1) := by decide +kernel
theorem dX11_years_2 : decode cX11_years 2 = .ok (.putfield 83, 3) := by decide +kernel
theorem dX11_years_5 : decode cX11_years 5 = .ok (.iload_n 1, 1) := by decide +kernel
theorem dX11_years_6 : decode cX11_years 6 = .ok (.iconst 1, 1) := by decide +kernel
theorem dX11_years_7 : decode cX11_years 7 = .ok (.bipush 60, 2) := by decide +kernel
theorem dX11_years_9 : decode cX11_years 9 = .ok (.invokestatic 238, 3) := by decide +kernel
theorem dX11_years_12 : decode cX11_years 12 = .ok (.istore_n 2, 1) := by decide +kernel
theorem dX11_years_13 : decode cX11_years 13 = .ok (.iload_n 2, 1) := by decide +kernel
theorem dX11_years_14 : decode cX11_years 14 = .ok (.ifCond .ne 20, 3) := by decide +kernel
theorem dX11_years_17 : decode cX11_years 17 = .ok (.aload_n 0, 1) := by decide +kernel
theorem dX11_years_18 : decode cX11_years 18 = .ok (.getfield 122, 3) := by decide +kernel
theorem dX11_years_21 : decode cX11_years 21 = .ok (.iload_n 1, 1) := by decide +kernel
theorem dX11_years_22 : decode cX11_years 22 = .ok (.iadd, 1) := by decide +kernel
theorem dX11_years_23 : decode cX11_years 23 = .ok (.sipush 999, 3) := by decide +kernel
theorem dX11_years_26 : decode cX11_years 26 = .ok (.if_icmp .le 8, 3) := by decide +kernel
theorem dX11_years_29 : decode cX11_years 29 = .ok (.bipush (-6), 2) := by decide +kernel
theorem dX11_years_31 : decode cX11_years 31 = .ok (.goto 4, 3) := by decide +kernel
theorem dX11_years_34 : decode cX11_years 34 = .ok (.iload_n 2, 1) := by decide +kernel
theorem dX11_years_35 : decode cX11_years 35 = .ok (.istore_n 2, 1) := by decide +kernel
theorem dX11_years_36 : decode cX11_years 36 = .ok (.iload_n 2, 1) := by decide +kernel
theorem dX11_years_37 : decode cX11_years 37 = .ok (.ifCond .ge 9, 3) := by decide +kernel
theorem dX11_years_40 : decode cX11_years 40 = .ok (.aload_n 0, 1) := by decide +kernel
theorem dX11_years_41 : decode cX11_years 41 = .ok (.iload_n 2, 1) := by decide +kernel
theorem dX11_years_42 : decode cX11_years 42 = .ok (.invokevirtual 134, 3) := by decide +kernel
theorem dX11_years_45 : decode cX11_years 45 = .ok (.ireturn, 1) := by decide +kernel
theorem dX11_years_46 : decode cX11_years 46 = .ok (.aload_n 0, 1) := by decide +kernel
theorem dX11_years_47 : decode cX11_years 47 = .ok (.invokevirtual 232, 3) := by decide +kernel
theorem dX11_years_50 : decode cX11_years 50 = .ok (.aload_n 0, 1) := by decide +kernel
theorem dX11_years_51 : decode cX11_years 51 = .ok (.iload_n 1, 1) := by decide +kernel
theorem dX11_years_52 : decode cX11_years 52 = .ok (.invokevirtual 185, 3) := by decide +kernel
theorem dX11_years_55 : decode cX11_years 55 = .ok (.aload_n 0, 1) := by decide +kernel
theorem dX11_years_56 : decode cX11_years 56 = .ok (.invokevirtual 235, 3) := by decide +kernel
theorem dX11_years_59 : decode cX11_years 59 = .ok (.ireturn, 1) := by decide +kernel
theorem dX11_debt_0 : decode cX11_debt 0 = .ok (.aload_n 0, 1) := by decide +kernel
theorem dX11_debt_1 : decode cX11_debt 1 = .ok (.iconst 0, 1) := by decide +kernel
theorem dX11_debt_2 : decode cX11_debt 2 = .ok (.putfield 83, 3) := by decide +kernel
theorem dX11_debt_5 : decode cX11_debt 5 = .ok (.aload_n 0, 1) := by decide +kernel
theorem dX11_debt_6 : decode cX11_debt 6 = .ok (.iload_n 1, 1) := by decide +kernel
theorem dX11_debt_7 : decode cX11_debt 7 = .ok (.invokevirtual 188, 3) := by decide +kernel
theorem dX11_debt_10 : decode cX11_debt 10 = .ok (.ifCond .eq 13, 3) := by decide +kernel
theorem dX11_debt_13 : decode cX11_debt 13 = .ok (.iload_n 2, 1) := by decide +kernel
theorem dX11_debt_14 : decode cX11_debt 14 = .ok (.iconst 0, 1) := by decide +kernel
theorem dX11_debt_15 : decode cX11_debt 15 = .ok (.ldc 96, 2) := by decide +kernel
theorem dX11_debt_17 : decode cX11_debt 17 = .ok (.invokestatic 238, 3) := by decide +kernel
theorem dX11_debt_20 : decode cX11_debt 20 = .ok (.goto 4, 3) := by decide +kernel
theorem dX11_debt_23 : decode cX11_debt 23 = .ok (.iconst (-1), 1) := by decide +kernel
theorem dX11_debt_24 : decode cX11_debt 24 = .ok (.istore_n 3, 1) := by decide +kernel
theorem dX11_debt_25 : decode cX11_debt 25 = .ok (.iload_n 3, 1) := by decide +kernel
theorem dX11_debt_26 : decode cX11_debt 26 = .ok (.ifCond .ge 9, 3) := by decide +kernel
theorem dX11_debt_29 : decode cX11_debt 29 = .ok (.aload_n 0, 1) := by decide +kernel
theorem dX11_debt_30 : decode cX11_debt 30 = .ok (.iload_n 3, 1) := by decide +kernel
theorem dX11_debt_31 : decode cX11_debt 31 = .ok (.invokevirtual 134, 3) := by decide +kernel
theorem dX11_debt_34 : decode cX11_debt 34 = .ok (.ireturn, 1) := by decide +kernel
theorem dX11_debt_35 : decode cX11_debt 35 = .ok (.aload_n 0, 1) := by decide +kernel
theorem dX11_debt_36 : decode cX11_debt 36 = .ok (.invokevirtual 232, 3) := by decide +kernel
theorem dX11_debt_39 : decode cX11_debt 39 = .ok (.aload_n 0, 1) := by decide +kernel
theorem dX11_debt_40 : decode cX11_debt 40 = .ok (.getfield 13, 3) := by decide +kernel
theorem dX11_debt_43 : decode cX11_debt 43 = .ok (.iload_n 1, 1) := by decide +kernel
theorem dX11_debt_44 : decode cX11_debt 44 = .ok (.iaload, 1) := by decide +kernel
theorem dX11_debt_45 : decode cX11_debt 45 = .ok (.istore 4, 2) := by decide +kernel
theorem dX11_debt_47 : decode cX11_debt 47 = .ok (.aload_n 0, 1) := by decide +kernel
theorem dX11_debt_48 : decode cX11_debt 48 = .ok (.getfield 13, 3) := by decide +kernel
theorem dX11_debt_51 : decode cX11_debt 51 = .ok (.iload_n 1, 1) := by decide +kernel
theorem dX11_debt_52 : decode cX11_debt 52 = .ok (.iload_n 2, 1) := by decide +kernel
theorem dX11_debt_53 : decode cX11_debt 53 = .ok (.iastore, 1) := by decide +kernel
theorem dX11_debt_54 : decode cX11_debt 54 = .ok (.iload 4, 2) := by decide +kernel
theorem dX11_debt_56 : decode cX11_debt 56 = .ok (.ireturn, 1) := by decide +kernel
theorem dX11_rate_0 : decode cX11_rate 0 = .ok (.aload_n 0, 1) := by decide +kernel
theorem dX11_rate_1 : decode cX11_rate 1 = .ok (.iconst 0, 1) := by decide +kernel
theorem dX11_rate_2 : decode cX11_rate 2 = .ok (.putfield 83, 3) := by decide +kernel
theorem dX11_rate_5 : decode cX11_rate 5 = .ok (.iload_n 1, 1) := by decide +kernel
theorem dX11_rate_6 : decode cX11_rate 6 = .ok (.iconst 0, 1) := by decide +kernel
theorem dX11_rate_7 : decode cX11_rate 7 = .ok (.bipush 20, 2) := by decide +kernel
theorem dX11_rate_9 : decode cX11_rate 9 = .ok (.invokestatic 238, 3) := by decide +kernel
theorem dX11_rate_12 : decode cX11_rate 12 = .ok (.ifCond .ge 15, 3) := by decide +kernel
theorem dX11_rate_15 : decode cX11_rate 15 = .ok (.aload_n 0, 1) := by decide +kernel
theorem dX11_rate_16 : decode cX11_rate 16 = .ok (.iload_n 1, 1) := by decide +kernel
theorem dX11_rate_17 : decode cX11_rate 17 = .ok (.iconst 0, 1) := by decide +kernel
theorem dX11_rate_18 : decode cX11_rate 18 = .ok (.bipush 20, 2) := by decide +kernel
theorem dX11_rate_20 : decode cX11_rate 20 = .ok (.invokestatic 238, 3) := by decide +kernel
theorem dX11_rate_23 : decode cX11_rate 23 = .ok (.invokevirtual 134, 3) := by decide +kernel
theorem dX11_rate_26 : decode cX11_rate 26 = .ok (.ireturn, 1) := by decide +kernel
theorem dX11_rate_27 : decode cX11_rate 27 = .ok (.aload_n 0, 1) := by decide +kernel
theorem dX11_rate_28 : decode cX11_rate 28 = .ok (.invokevirtual 232, 3) := by decide +kernel
theorem dX11_rate_31 : decode cX11_rate 31 = .ok (.aload_n 0, 1) := by decide +kernel
theorem dX11_rate_32 : decode cX11_rate 32 = .ok (.getfield 22, 3) := by decide +kernel
theorem dX11_rate_35 : decode cX11_rate 35 = .ok (.istore_n 2, 1) := by decide +kernel
theorem dX11_rate_36 : decode cX11_rate 36 = .ok (.aload_n 0, 1) := by decide +kernel
theorem dX11_rate_37 : decode cX11_rate 37 = .ok (.iload_n 1, 1) := by decide +kernel
theorem dX11_rate_38 : decode cX11_rate 38 = .ok (.putfield 22, 3) := by decide +kernel
theorem dX11_rate_41 : decode cX11_rate 41 = .ok (.iload_n 2, 1) := by decide +kernel
theorem dX11_rate_42 : decode cX11_rate 42 = .ok (.ireturn, 1) := by decide +kernel
theorem dX11_behind_0 : decode cX11_behind 0 = .ok (.aload_n 0, 1) := by decide +kernel
theorem dX11_behind_1 : decode cX11_behind 1 = .ok (.iconst 0, 1) := by decide +kernel
theorem dX11_behind_2 : decode cX11_behind 2 = .ok (.putfield 83, 3) := by decide +kernel
theorem dX11_behind_5 : decode cX11_behind 5 = .ok (.aload_n 0, 1) := by decide +kernel
theorem dX11_behind_6 : decode cX11_behind 6 = .ok (.iload_n 1, 1) := by decide +kernel
theorem dX11_behind_7 : decode cX11_behind 7 = .ok (.invokevirtual 188, 3) := by decide +kernel
theorem dX11_behind_10 : decode cX11_behind 10 = .ok (.ifCond .eq 13, 3) := by decide +kernel
theorem dX11_behind_13 : decode cX11_behind 13 = .ok (.iload_n 2, 1) := by decide +kernel
theorem dX11_behind_14 : decode cX11_behind 14 = .ok (.iconst 0, 1) := by decide +kernel
theorem dX11_behind_15 : decode cX11_behind 15 = .ok (.bipush 100, 2) := by decide +kernel
theorem dX11_behind_17 : decode cX11_behind 17 = .ok (.invokestatic 238, 3) := by decide +kernel
theorem dX11_behind_20 : decode cX11_behind 20 = .ok (.goto 4, 3) := by decide +kernel
theorem dX11_behind_23 : decode cX11_behind 23 = .ok (.iconst (-1), 1) := by decide +kernel
theorem dX11_behind_24 : decode cX11_behind 24 = .ok (.iload_n 3, 1) := by decide +kernel
theorem dX11_behind_25 : decode cX11_behind 25 = .ok (.iconst 2, 1) := by decide +kernel
theorem dX11_behind_26 : decode cX11_behind 26 = .ok (.invokestatic 241, 3) := by decide +kernel
theorem dX11_behind_29 : decode cX11_behind 29 = .ok (.istore 4, 2) := by decide +kernel
theorem dX11_behind_31 : decode cX11_behind 31 = .ok (.iload 4, 2) := by decide +kernel
theorem dX11_behind_33 : decode cX11_behind 33 = .ok (.ifCond .ge 10, 3) := by decide +kernel
theorem dX11_behind_36 : decode cX11_behind 36 = .ok (.aload_n 0, 1) := by decide +kernel
theorem dX11_behind_37 : decode cX11_behind 37 = .ok (.iload 4, 2) := by decide +kernel
theorem dX11_behind_39 : decode cX11_behind 39 = .ok (.invokevirtual 134, 3) := by decide +kernel
theorem dX11_behind_42 : decode cX11_behind 42 = .ok (.ireturn, 1) := by decide +kernel
theorem dX11_behind_43 : decode cX11_behind 43 = .ok (.aload_n 0, 1) := by decide +kernel
theorem dX11_behind_44 : decode cX11_behind 44 = .ok (.invokevirtual 194, 3) := by decide +kernel
theorem dX11_behind_47 : decode cX11_behind 47 = .ok (.aload_n 0, 1) := by decide +kernel
theorem dX11_behind_48 : decode cX11_behind 48 = .ok (.iload_n 2, 1) := by decide +kernel
theorem dX11_behind_49 : decode cX11_behind 49 = .ok (.invokevirtual 185, 3) := by decide +kernel
theorem dX11_behind_52 : decode cX11_behind 52 = .ok (.iload_n 3, 1) := by decide +kernel
theorem dX11_behind_53 : decode cX11_behind 53 = .ok (.ifCond .ne 12, 3) := by decide +kernel
theorem dX11_behind_56 : decode cX11_behind 56 = .ok (.aload_n 0, 1) := by decide +kernel
theorem dX11_behind_57 : decode cX11_behind 57 = .ok (.getfield 13, 3) := by decide +kernel
theorem dX11_behind_60 : decode cX11_behind 60 = .ok (.iload_n 1, 1) := by decide +kernel
theorem dX11_behind_61 : decode cX11_behind 61 = .ok (.iaload, 1) := by decide +kernel
theorem dX11_behind_62 : decode cX11_behind 62 = .ok (.goto 22, 3) := by decide +kernel
theorem dX11_behind_65 : decode cX11_behind 65 = .ok (.iload_n 3, 1) := by decide +kernel
theorem dX11_behind_66 : decode cX11_behind 66 = .ok (.iconst 1, 1) := by decide +kernel
theorem dX11_behind_67 : decode cX11_behind 67 = .ok (.if_icmp .ne 12, 3) := by decide +kernel
theorem dX11_behind_70 : decode cX11_behind 70 = .ok (.aload_n 0, 1) := by decide +kernel
theorem dX11_behind_71 : decode cX11_behind 71 = .ok (.getfield 7, 3) := by decide +kernel
theorem dX11_behind_74 : decode cX11_behind 74 = .ok (.iload_n 1, 1) := by decide +kernel
theorem dX11_behind_75 : decode cX11_behind 75 = .ok (.iaload, 1) := by decide +kernel
theorem dX11_behind_76 : decode cX11_behind 76 = .ok (.goto 8, 3) := by decide +kernel
theorem dX11_behind_79 : decode cX11_behind 79 = .ok (.aload_n 0, 1) := by decide +kernel
theorem dX11_behind_80 : decode cX11_behind 80 = .ok (.iload_n 1, 1) := by decide +kernel
theorem dX11_behind_81 : decode cX11_behind 81 = .ok (.invokevirtual 227, 3) := by decide +kernel
theorem dX11_behind_84 : decode cX11_behind 84 = .ok (.istore 5, 2) := by decide +kernel
theorem dX11_behind_86 : decode cX11_behind 86 = .ok (.aload_n 0, 1) := by decide +kernel
theorem dX11_behind_87 : decode cX11_behind 87 = .ok (.invokevirtual 200, 3) := by decide +kernel
theorem dX11_behind_90 : decode cX11_behind 90 = .ok (.iload 5, 2) := by decide +kernel
theorem dX11_behind_92 : decode cX11_behind 92 = .ok (.ireturn, 1) := by decide +kernel
theorem dX11_allIn_0 : decode cX11_allIn 0 = .ok (.aload_n 0, 1) := by decide +kernel
theorem dX11_allIn_1 : decode cX11_allIn 1 = .ok (.iload_n 1, 1) := by decide +kernel
theorem dX11_allIn_2 : decode cX11_allIn 2 = .ok (.invokevirtual 185, 3) := by decide +kernel
theorem dX11_allIn_5 : decode cX11_allIn 5 = .ok (.aload_n 0, 1) := by decide +kernel
theorem dX11_allIn_6 : decode cX11_allIn 6 = .ok (.invokevirtual 235, 3) := by decide +kernel
theorem dX11_allIn_9 : decode cX11_allIn 9 = .ok (.istore_n 2, 1) := by decide +kernel
theorem dX11_allIn_10 : decode cX11_allIn 10 = .ok (.aload_n 0, 1) := by decide +kernel
theorem dX11_allIn_11 : decode cX11_allIn 11 = .ok (.invokevirtual 200, 3) := by decide +kernel
theorem dX11_allIn_14 : decode cX11_allIn 14 = .ok (.iload_n 2, 1) := by decide +kernel
theorem dX11_allIn_15 : decode cX11_allIn 15 = .ok (.ireturn, 1) := by decide +kernel
theorem dX11_all_0 : decode cX11_all 0 = .ok (.aload_n 0, 1) := by decide +kernel
theorem dX11_all_1 : decode cX11_all 1 = .ok (.iconst 0, 1) := by decide +kernel
theorem dX11_all_2 : decode cX11_all 2 = .ok (.putfield 83, 3) := by decide +kernel
theorem dX11_all_5 : decode cX11_all 5 = .ok (.iload_n 1, 1) := by decide +kernel
theorem dX11_all_6 : decode cX11_all 6 = .ok (.iconst 0, 1) := by decide +kernel
theorem dX11_all_7 : decode cX11_all 7 = .ok (.bipush 100, 2) := by decide +kernel
theorem dX11_all_9 : decode cX11_all 9 = .ok (.invokestatic 238, 3) := by decide +kernel
theorem dX11_all_12 : decode cX11_all 12 = .ok (.ifCond .ge 15, 3) := by decide +kernel
theorem dX11_all_15 : decode cX11_all 15 = .ok (.aload_n 0, 1) := by decide +kernel
theorem dX11_all_16 : decode cX11_all 16 = .ok (.iload_n 1, 1) := by decide +kernel
theorem dX11_all_17 : decode cX11_all 17 = .ok (.iconst 0, 1) := by decide +kernel
theorem dX11_all_18 : decode cX11_all 18 = .ok (.bipush 100, 2) := by decide +kernel
theorem dX11_all_20 : decode cX11_all 20 = .ok (.invokestatic 238, 3) := by decide +kernel
theorem dX11_all_23 : decode cX11_all 23 = .ok (.invokevirtual 134, 3) := by decide +kernel
theorem dX11_all_26 : decode cX11_all 26 = .ok (.ireturn, 1) := by decide +kernel
theorem dX11_all_27 : decode cX11_all 27 = .ok (.aload_n 0, 1) := by decide +kernel
theorem dX11_all_28 : decode cX11_all 28 = .ok (.invokevirtual 194, 3) := by decide +kernel
theorem dX11_all_31 : decode cX11_all 31 = .ok (.aload_n 0, 1) := by decide +kernel
theorem dX11_all_32 : decode cX11_all 32 = .ok (.iload_n 1, 1) := by decide +kernel
theorem dX11_all_33 : decode cX11_all 33 = .ok (.invokevirtual 244, 3) := by decide +kernel
theorem dX11_all_36 : decode cX11_all 36 = .ok (.ireturn, 1) := by decide +kernel
theorem dX11_solventIn_0 : decode cX11_solventIn 0 = .ok (.iconst 0, 1) := by decide +kernel
theorem dX11_solventIn_1 : decode cX11_solventIn 1 = .ok (.istore_n 2, 1) := by decide +kernel
theorem dX11_solventIn_2 : decode cX11_solventIn 2 = .ok (.aload_n 0, 1) := by decide +kernel
theorem dX11_solventIn_3 : decode cX11_solventIn 3 = .ok (.invokevirtual 194, 3) := by decide +kernel
theorem dX11_solventIn_6 : decode cX11_solventIn 6 = .ok (.iload_n 2, 1) := by decide +kernel
theorem dX11_solventIn_7 : decode cX11_solventIn 7 = .ok (.bipush 100, 2) := by decide +kernel
theorem dX11_solventIn_9 : decode cX11_solventIn 9 = .ok (.if_icmp .gt 22, 3) := by decide +kernel
theorem dX11_solventIn_12 : decode cX11_solventIn 12 = .ok (.aload_n 0, 1) := by decide +kernel
theorem dX11_solventIn_13 : decode cX11_solventIn 13 = .ok (.getfield 13, 3) := by decide +kernel
theorem dX11_solventIn_16 : decode cX11_solventIn 16 = .ok (.iload_n 1, 1) := by decide +kernel
theorem dX11_solventIn_17 : decode cX11_solventIn 17 = .ok (.iaload, 1) := by decide +kernel
theorem dX11_solventIn_18 : decode cX11_solventIn 18 = .ok (.ifCond .le 13, 3) := by decide +kernel
theorem dX11_solventIn_21 : decode cX11_solventIn 21 = .ok (.aload_n 0, 1) := by decide +kernel
theorem dX11_solventIn_22 : decode cX11_solventIn 22 = .ok (.invokevirtual 131, 3) := by decide +kernel
theorem dX11_solventIn_25 : decode cX11_solventIn 25 = .ok (.iinc 2 1, 3) := by decide +kernel
theorem dX11_solventIn_28 : decode cX11_solventIn 28 = .ok (.goto (-22), 3) := by decide +kernel
theorem dX11_solventIn_31 : decode cX11_solventIn 31 = .ok (.aload_n 0, 1) := by decide +kernel
theorem dX11_solventIn_32 : decode cX11_solventIn 32 = .ok (.invokevirtual 200, 3) := by decide +kernel
theorem dX11_solventIn_35 : decode cX11_solventIn 35 = .ok (.iload_n 2, 1) := by decide +kernel
theorem dX11_solventIn_36 : decode cX11_solventIn 36 = .ok (.bipush 100, 2) := by decide +kernel
theorem dX11_solventIn_38 : decode cX11_solventIn 38 = .ok (.if_icmp .le 8, 3) := by decide +kernel
theorem dX11_solventIn_41 : decode cX11_solventIn 41 = .ok (.bipush (-9), 2) := by decide +kernel
theorem dX11_solventIn_43 : decode cX11_solventIn 43 = .ok (.goto 4, 3) := by decide +kernel
theorem dX11_solventIn_46 : decode cX11_solventIn 46 = .ok (.iload_n 2, 1) := by decide +kernel
theorem dX11_solventIn_47 : decode cX11_solventIn 47 = .ok (.ireturn, 1) := by decide +kernel
theorem dX11_solvent_0 : decode cX11_solvent 0 = .ok (.aload_n 0, 1) := by decide +kernel
theorem dX11_solvent_1 : decode cX11_solvent 1 = .ok (.iconst 0, 1) := by decide +kernel
theorem dX11_solvent_2 : decode cX11_solvent 2 = .ok (.putfield 83, 3) := by decide +kernel
theorem dX11_solvent_5 : decode cX11_solvent 5 = .ok (.aload_n 0, 1) := by decide +kernel
theorem dX11_solvent_6 : decode cX11_solvent 6 = .ok (.iload_n 1, 1) := by decide +kernel
theorem dX11_solvent_7 : decode cX11_solvent 7 = .ok (.invokevirtual 188, 3) := by decide +kernel
theorem dX11_solvent_10 : decode cX11_solvent 10 = .ok (.ifCond .eq 11, 3) := by decide +kernel
theorem dX11_solvent_13 : decode cX11_solvent 13 = .ok (.aload_n 0, 1) := by decide +kernel
theorem dX11_solvent_14 : decode cX11_solvent 14 = .ok (.iload_n 1, 1) := by decide +kernel
theorem dX11_solvent_15 : decode cX11_solvent 15 = .ok (.invokevirtual 247, 3) := by decide +kernel
theorem dX11_solvent_18 : decode cX11_solvent 18 = .ok (.goto 8, 3) := by decide +kernel
theorem dX11_solvent_21 : decode cX11_solvent 21 = .ok (.aload_n 0, 1) := by decide +kernel
theorem dX11_solvent_22 : decode cX11_solvent 22 = .ok (.iconst (-1), 1) := by decide +kernel
theorem dX11_solvent_23 : decode cX11_solvent 23 = .ok (.invokevirtual 134, 3) := by decide +kernel
theorem dX11_solvent_26 : decode cX11_solvent 26 = .ok (.ireturn, 1) := by decide +kernel
theorem dX11_stuckIn_0 : decode cX11_stuckIn 0 = .ok (.bipush (-9), 2) := by decide +kernel
theorem dX11_stuckIn_2 : decode cX11_stuckIn 2 = .ok (.istore_n 1, 1) := by decide +kernel
theorem dX11_stuckIn_3 : decode cX11_stuckIn 3 = .ok (.aload_n 0, 1) := by decide +kernel
theorem dX11_stuckIn_4 : decode cX11_stuckIn 4 = .ok (.invokevirtual 194, 3) := by decide +kernel
theorem dX11_stuckIn_7 : decode cX11_stuckIn 7 = .ok (.iconst 0, 1) := by decide +kernel
theorem dX11_stuckIn_8 : decode cX11_stuckIn 8 = .ok (.istore_n 2, 1) := by decide +kernel
theorem dX11_stuckIn_9 : decode cX11_stuckIn 9 = .ok (.iload_n 2, 1) := by decide +kernel
theorem dX11_stuckIn_10 : decode cX11_stuckIn 10 = .ok (.bipush 100, 2) := by decide +kernel
theorem dX11_stuckIn_12 : decode cX11_stuckIn 12 = .ok (.if_icmp .gt 50, 3) := by decide +kernel
theorem dX11_stuckIn_15 : decode cX11_stuckIn 15 = .ok (.iload_n 1, 1) := by decide +kernel
theorem dX11_stuckIn_16 : decode cX11_stuckIn 16 = .ok (.ifCond .ge 46, 3) := by decide +kernel
theorem dX11_stuckIn_19 : decode cX11_stuckIn 19 = .ok (.iconst 0, 1) := by decide +kernel
theorem dX11_stuckIn_20 : decode cX11_stuckIn 20 = .ok (.istore_n 3, 1) := by decide +kernel
theorem dX11_stuckIn_21 : decode cX11_stuckIn 21 = .ok (.iload_n 3, 1) := by decide +kernel
theorem dX11_stuckIn_22 : decode cX11_stuckIn 22 = .ok (.aload_n 0, 1) := by decide +kernel
theorem dX11_stuckIn_23 : decode cX11_stuckIn 23 = .ok (.getfield 86, 3) := by decide +kernel
theorem dX11_stuckIn_26 : decode cX11_stuckIn 26 = .ok (.if_icmp .ge 26, 3) := by decide +kernel
theorem dX11_stuckIn_29 : decode cX11_stuckIn 29 = .ok (.aload_n 0, 1) := by decide +kernel
theorem dX11_stuckIn_30 : decode cX11_stuckIn 30 = .ok (.getfield 13, 3) := by decide +kernel
theorem dX11_stuckIn_33 : decode cX11_stuckIn 33 = .ok (.iload_n 3, 1) := by decide +kernel
theorem dX11_stuckIn_34 : decode cX11_stuckIn 34 = .ok (.iaload, 1) := by decide +kernel
theorem dX11_stuckIn_35 : decode cX11_stuckIn 35 = .ok (.ldc 96, 2) := by decide +kernel
theorem dX11_stuckIn_37 : decode cX11_stuckIn 37 = .ok (.if_icmp .ne 7, 3) := by decide +kernel
theorem dX11_stuckIn_40 : decode cX11_stuckIn 40 = .ok (.iload_n 2, 1) := by decide +kernel
theorem dX11_stuckIn_41 : decode cX11_stuckIn 41 = .ok (.goto 4, 3) := by decide +kernel
theorem dX11_stuckIn_44 : decode cX11_stuckIn 44 = .ok (.iload_n 1, 1) := by decide +kernel
theorem dX11_stuckIn_45 : decode cX11_stuckIn 45 = .ok (.istore_n 1, 1) := by decide +kernel
theorem dX11_stuckIn_46 : decode cX11_stuckIn 46 = .ok (.iinc 3 1, 3) := by decide +kernel
theorem dX11_stuckIn_49 : decode cX11_stuckIn 49 = .ok (.goto (-28), 3) := by decide +kernel
theorem dX11_stuckIn_52 : decode cX11_stuckIn 52 = .ok (.aload_n 0, 1) := by decide +kernel
theorem dX11_stuckIn_53 : decode cX11_stuckIn 53 = .ok (.invokevirtual 131, 3) := by decide +kernel
theorem dX11_stuckIn_56 : decode cX11_stuckIn 56 = .ok (.iinc 2 1, 3) := by decide +kernel
theorem dX11_stuckIn_59 : decode cX11_stuckIn 59 = .ok (.goto (-50), 3) := by decide +kernel
theorem dX11_stuckIn_62 : decode cX11_stuckIn 62 = .ok (.aload_n 0, 1) := by decide +kernel
theorem dX11_stuckIn_63 : decode cX11_stuckIn 63 = .ok (.invokevirtual 200, 3) := by decide +kernel
theorem dX11_stuckIn_66 : decode cX11_stuckIn 66 = .ok (.iload_n 1, 1) := by decide +kernel
theorem dX11_stuckIn_67 : decode cX11_stuckIn 67 = .ok (.ireturn, 1) := by decide +kernel
theorem dX11_growBits_0 : decode cX11_growBits 0 = .ok (.iconst 0, 1) := by decide +kernel
theorem dX11_growBits_1 : decode cX11_growBits 1 = .ok (.istore_n 1, 1) := by decide +kernel
theorem dX11_growBits_2 : decode cX11_growBits 2 = .ok (.aload_n 0, 1) := by decide +kernel
theorem dX11_growBits_3 : decode cX11_growBits 3 = .ok (.invokevirtual 194, 3) := by decide +kernel
theorem dX11_growBits_6 : decode cX11_growBits 6 = .ok (.aload_n 0, 1) := by decide +kernel
theorem dX11_growBits_7 : decode cX11_growBits 7 = .ok (.invokevirtual 131, 3) := by decide +kernel
theorem dX11_growBits_10 : decode cX11_growBits 10 = .ok (.iconst 0, 1) := by decide +kernel
theorem dX11_growBits_11 : decode cX11_growBits 11 = .ok (.istore_n 2, 1) := by decide +kernel
theorem dX11_growBits_12 : decode cX11_growBits 12 = .ok (.iload_n 2, 1) := by decide +kernel
theorem dX11_growBits_13 : decode cX11_growBits 13 = .ok (.aload_n 0, 1) := by decide +kernel
theorem dX11_growBits_14 : decode cX11_growBits 14 = .ok (.getfield 86, 3) := by decide +kernel
theorem dX11_growBits_17 : decode cX11_growBits 17 = .ok (.if_icmp .ge 40, 3) := by decide +kernel
theorem dX11_growBits_20 : decode cX11_growBits 20 = .ok (.aload_n 0, 1) := by decide +kernel
theorem dX11_growBits_21 : decode cX11_growBits 21 = .ok (.getfield 13, 3) := by decide +kernel
theorem dX11_growBits_24 : decode cX11_growBits 24 = .ok (.iload_n 2, 1) := by decide +kernel
theorem dX11_growBits_25 : decode cX11_growBits 25 = .ok (.iaload, 1) := by decide +kernel
theorem dX11_growBits_26 : decode cX11_growBits 26 = .ok (.istore_n 3, 1) := by decide +kernel
theorem dX11_growBits_27 : decode cX11_growBits 27 = .ok (.iload_n 1, 1) := by decide +kernel
theorem dX11_growBits_28 : decode cX11_growBits 28 = .ok (.iload_n 3, 1) := by decide +kernel
theorem dX11_growBits_29 : decode cX11_growBits 29 = .ok (.aload_n 0, 1) := by decide +kernel
theorem dX11_growBits_30 : decode cX11_growBits 30 = .ok (.getfield 62, 3) := by decide +kernel
theorem dX11_growBits_33 : decode cX11_growBits 33 = .ok (.iconst 5, 1) := by decide +kernel
theorem dX11_growBits_34 : decode cX11_growBits 34 = .ok (.iconst 4, 1) := by decide +kernel
theorem dX11_growBits_35 : decode cX11_growBits 35 = .ok (.iload_n 2, 1) := by decide +kernel
theorem dX11_growBits_36 : decode cX11_growBits 36 = .ok (.imul, 1) := by decide +kernel
theorem dX11_growBits_37 : decode cX11_growBits 37 = .ok (.iadd, 1) := by decide +kernel
theorem dX11_growBits_38 : decode cX11_growBits 38 = .ok (.iaload, 1) := by decide +kernel
theorem dX11_growBits_39 : decode cX11_growBits 39 = .ok (.if_icmp .le 9, 3) := by decide +kernel
theorem dX11_growBits_42 : decode cX11_growBits 42 = .ok (.iconst 1, 1) := by decide +kernel
theorem dX11_growBits_43 : decode cX11_growBits 43 = .ok (.iload_n 2, 1) := by decide +kernel
theorem dX11_growBits_44 : decode cX11_growBits 44 = .ok (.ishl, 1) := by decide +kernel
theorem dX11_growBits_45 : decode cX11_growBits 45 = .ok (.goto 4, 3) := by decide +kernel
theorem dX11_growBits_48 : decode cX11_growBits 48 = .ok (.iconst 0, 1) := by decide +kernel
theorem dX11_growBits_49 : decode cX11_growBits 49 = .ok (.ior, 1) := by decide +kernel
theorem dX11_growBits_50 : decode cX11_growBits 50 = .ok (.istore_n 1, 1) := by decide +kernel
theorem dX11_growBits_51 : decode cX11_growBits 51 = .ok (.iinc 2 1, 3) := by decide +kernel
theorem dX11_growBits_54 : decode cX11_growBits 54 = .ok (.goto (-42), 3) := by decide +kernel
theorem dX11_growBits_57 : decode cX11_growBits 57 = .ok (.aload_n 0, 1) := by decide +kernel
theorem dX11_growBits_58 : decode cX11_growBits 58 = .ok (.invokevirtual 200, 3) := by decide +kernel
theorem dX11_growBits_61 : decode cX11_growBits 61 = .ok (.iload_n 1, 1) := by decide +kernel
theorem dX11_growBits_62 : decode cX11_growBits 62 = .ok (.ireturn, 1) := by decide +kernel
theorem dX11_first_0 : decode cX11_first 0 = .ok (.aload_n 0, 1) := by decide +kernel
theorem dX11_first_1 : decode cX11_first 1 = .ok (.iconst 0, 1) := by decide +kernel
theorem dX11_first_2 : decode cX11_first 2 = .ok (.putfield 83, 3) := by decide +kernel
theorem dX11_first_5 : decode cX11_first 5 = .ok (.iload_n 1, 1) := by decide +kernel
theorem dX11_first_6 : decode cX11_first 6 = .ok (.i2l, 1) := by decide +kernel
theorem dX11_first_7 : decode cX11_first 7 = .ok (.lconst 0, 1) := by decide +kernel
theorem dX11_first_8 : decode cX11_first 8 = .ok (.ldc2_w 250, 3) := by decide +kernel
theorem dX11_first_11 : decode cX11_first 11 = .ok (.invokestatic 89, 3) := by decide +kernel
theorem dX11_first_14 : decode cX11_first 14 = .ok (.ifCond .ne 10, 3) := by decide +kernel
theorem dX11_first_17 : decode cX11_first 17 = .ok (.aload_n 0, 1) := by decide +kernel
theorem dX11_first_18 : decode cX11_first 18 = .ok (.bipush (-2), 2) := by decide +kernel
theorem dX11_first_20 : decode cX11_first 20 = .ok (.invokevirtual 134, 3) := by decide +kernel
theorem dX11_first_23 : decode cX11_first 23 = .ok (.ireturn, 1) := by decide +kernel
theorem dX11_first_24 : decode cX11_first 24 = .ok (.iload_n 1, 1) := by decide +kernel
theorem dX11_first_25 : decode cX11_first 25 = .ok (.ifCond .le 20, 3) := by decide +kernel
theorem dX11_first_28 : decode cX11_first 28 = .ok (.iload_n 1, 1) := by decide +kernel
theorem dX11_first_29 : decode cX11_first 29 = .ok (.iconst 1, 1) := by decide +kernel
theorem dX11_first_30 : decode cX11_first 30 = .ok (.if_icmp .ne 10, 3) := by decide +kernel
theorem dX11_first_33 : decode cX11_first 33 = .ok (.aload_n 0, 1) := by decide +kernel
theorem dX11_first_34 : decode cX11_first 34 = .ok (.invokevirtual 252, 3) := by decide +kernel
theorem dX11_first_37 : decode cX11_first 37 = .ok (.goto 7, 3) := by decide +kernel
theorem dX11_first_40 : decode cX11_first 40 = .ok (.aload_n 0, 1) := by decide +kernel
theorem dX11_first_41 : decode cX11_first 41 = .ok (.invokevirtual 255, 3) := by decide +kernel
theorem dX11_first_44 : decode cX11_first 44 = .ok (.ireturn, 1) := by decide +kernel
theorem dX11_first_45 : decode cX11_first 45 = .ok (.bipush (-9), 2) := by decide +kernel
theorem dX11_first_47 : decode cX11_first 47 = .ok (.istore_n 2, 1) := by decide +kernel
theorem dX11_first_48 : decode cX11_first 48 = .ok (.sipush 999, 3) := by decide +kernel
theorem dX11_first_51 : decode cX11_first 51 = .ok (.istore_n 3, 1) := by decide +kernel
theorem dX11_first_52 : decode cX11_first 52 = .ok (.iconst 0, 1) := by decide +kernel
theorem dX11_first_53 : decode cX11_first 53 = .ok (.istore 4, 2) := by decide +kernel
theorem dX11_first_55 : decode cX11_first 55 = .ok (.iload 4, 2) := by decide +kernel
theorem dX11_first_57 : decode cX11_first 57 = .ok (.aload_n 0, 1) := by decide +kernel
theorem dX11_first_58 : decode cX11_first 58 = .ok (.getfield 86, 3) := by decide +kernel
theorem dX11_first_61 : decode cX11_first 61 = .ok (.if_icmp .ge 53, 3) := by decide +kernel
theorem dX11_first_64 : decode cX11_first 64 = .ok (.aload_n 0, 1) := by decide +kernel
theorem dX11_first_65 : decode cX11_first 65 = .ok (.iload 4, 2) := by decide +kernel
theorem dX11_first_67 : decode cX11_first 67 = .ok (.invokevirtual 247, 3) := by decide +kernel
theorem dX11_first_70 : decode cX11_first 70 = .ok (.istore 5, 2) := by decide +kernel
theorem dX11_first_72 : decode cX11_first 72 = .ok (.iload 5, 2) := by decide +kernel
theorem dX11_first_74 : decode cX11_first 74 = .ok (.ifCond .lt 14, 3) := by decide +kernel
theorem dX11_first_77 : decode cX11_first 77 = .ok (.iload 5, 2) := by decide +kernel
theorem dX11_first_79 : decode cX11_first 79 = .ok (.iload_n 3, 1) := by decide +kernel
theorem dX11_first_80 : decode cX11_first 80 = .ok (.if_icmp .ge 8, 3) := by decide +kernel
theorem dX11_first_83 : decode cX11_first 83 = .ok (.iload 4, 2) := by decide +kernel
theorem dX11_first_85 : decode cX11_first 85 = .ok (.goto 4, 3) := by decide +kernel
theorem dX11_first_88 : decode cX11_first 88 = .ok (.iload_n 2, 1) := by decide +kernel
theorem dX11_first_89 : decode cX11_first 89 = .ok (.istore_n 2, 1) := by decide +kernel
theorem dX11_first_90 : decode cX11_first 90 = .ok (.iload 5, 2) := by decide +kernel
theorem dX11_first_92 : decode cX11_first 92 = .ok (.ifCond .lt 14, 3) := by decide +kernel
theorem dX11_first_95 : decode cX11_first 95 = .ok (.iload 5, 2) := by decide +kernel
theorem dX11_first_97 : decode cX11_first 97 = .ok (.iload_n 3, 1) := by decide +kernel
theorem dX11_first_98 : decode cX11_first 98 = .ok (.if_icmp .ge 8, 3) := by decide +kernel
theorem dX11_first_101 : decode cX11_first 101 = .ok (.iload 5, 2) := by decide +kernel
theorem dX11_first_103 : decode cX11_first 103 = .ok (.goto 4, 3) := by decide +kernel
theorem dX11_first_106 : decode cX11_first 106 = .ok (.iload_n 3, 1) := by decide +kernel
theorem dX11_first_107 : decode cX11_first 107 = .ok (.istore_n 3, 1) := by decide +kernel
theorem dX11_first_108 : decode cX11_first 108 = .ok (.iinc 4 1, 3) := by decide +kernel
theorem dX11_first_111 : decode cX11_first 111 = .ok (.goto (-56), 3) := by decide +kernel
theorem dX11_first_114 : decode cX11_first 114 = .ok (.iload_n 2, 1) := by decide +kernel
theorem dX11_first_115 : decode cX11_first 115 = .ok (.ireturn, 1) := by decide +kernel
theorem dX11_highest_0 : decode cX11_highest 0 = .ok (.aload_n 0, 1) := by decide +kernel
theorem dX11_highest_1 : decode cX11_highest 1 = .ok (.iconst 0, 1) := by decide +kernel
theorem dX11_highest_2 : decode cX11_highest 2 = .ok (.putfield 83, 3) := by decide +kernel
theorem dX11_highest_5 : decode cX11_highest 5 = .ok (.aload_n 0, 1) := by decide +kernel
theorem dX11_highest_6 : decode cX11_highest 6 = .ok (.iload_n 1, 1) := by decide +kernel
theorem dX11_highest_7 : decode cX11_highest 7 = .ok (.invokevirtual 188, 3) := by decide +kernel
theorem dX11_highest_10 : decode cX11_highest 10 = .ok (.ifCond .eq 13, 3) := by decide +kernel
theorem dX11_highest_13 : decode cX11_highest 13 = .ok (.iload_n 2, 1) := by decide +kernel
theorem dX11_highest_14 : decode cX11_highest 14 = .ok (.iconst 0, 1) := by decide +kernel
theorem dX11_highest_15 : decode cX11_highest 15 = .ok (.bipush 100, 2) := by decide +kernel
theorem dX11_highest_17 : decode cX11_highest 17 = .ok (.invokestatic 238, 3) := by decide +kernel
theorem dX11_highest_20 : decode cX11_highest 20 = .ok (.goto 4, 3) := by decide +kernel
theorem dX11_highest_23 : decode cX11_highest 23 = .ok (.iconst (-1), 1) := by decide +kernel
theorem dX11_highest_24 : decode cX11_highest 24 = .ok (.iload_n 3, 1) := by decide +kernel
theorem dX11_highest_25 : decode cX11_highest 25 = .ok (.iconst 1, 1) := by decide +kernel
theorem dX11_highest_26 : decode cX11_highest 26 = .ok (.invokestatic 241, 3) := by decide +kernel
theorem dX11_highest_29 : decode cX11_highest 29 = .ok (.istore 4, 2) := by decide +kernel
theorem dX11_highest_31 : decode cX11_highest 31 = .ok (.iload 4, 2) := by decide +kernel
theorem dX11_highest_33 : decode cX11_highest 33 = .ok (.ifCond .ge 10, 3) := by decide +kernel
theorem dX11_highest_36 : decode cX11_highest 36 = .ok (.aload_n 0, 1) := by decide +kernel
theorem dX11_highest_37 : decode cX11_highest 37 = .ok (.iload 4, 2) := by decide +kernel
theorem dX11_highest_39 : decode cX11_highest 39 = .ok (.invokevirtual 134, 3) := by decide +kernel
theorem dX11_highest_42 : decode cX11_highest 42 = .ok (.ireturn, 1) := by decide +kernel
theorem dX11_highest_43 : decode cX11_highest 43 = .ok (.bipush (-9), 2) := by decide +kernel
theorem dX11_highest_45 : decode cX11_highest 45 = .ok (.istore 5, 2) := by decide +kernel
theorem dX11_highest_47 : decode cX11_highest 47 = .ok (.aload_n 0, 1) := by decide +kernel
theorem dX11_highest_48 : decode cX11_highest 48 = .ok (.invokevirtual 194, 3) := by decide +kernel
theorem dX11_highest_51 : decode cX11_highest 51 = .ok (.iconst 0, 1) := by decide +kernel
theorem dX11_highest_52 : decode cX11_highest 52 = .ok (.istore 6, 2) := by decide +kernel
theorem dX11_highest_54 : decode cX11_highest 54 = .ok (.iload 6, 2) := by decide +kernel
theorem dX11_highest_56 : decode cX11_highest 56 = .ok (.iload_n 3, 1) := by decide +kernel
theorem dX11_highest_57 : decode cX11_highest 57 = .ok (.ifCond .ne 8, 3) := by decide +kernel
theorem dX11_highest_60 : decode cX11_highest 60 = .ok (.bipush 20, 2) := by decide +kernel
theorem dX11_highest_62 : decode cX11_highest 62 = .ok (.goto 5, 3) := by decide +kernel
theorem dX11_highest_65 : decode cX11_highest 65 = .ok (.bipush 9, 2) := by decide +kernel
theorem dX11_highest_67 : decode cX11_highest 67 = .ok (.if_icmp .gt 96, 3) := by decide +kernel
theorem dX11_highest_70 : decode cX11_highest 70 = .ok (.aload_n 0, 1) := by decide +kernel
theorem dX11_highest_71 : decode cX11_highest 71 = .ok (.iload_n 3, 1) := by decide +kernel
theorem dX11_highest_72 : decode cX11_highest 72 = .ok (.ifCond .ne 8, 3) := by decide +kernel
theorem dX11_highest_75 : decode cX11_highest 75 = .ok (.iload 6, 2) := by decide +kernel
theorem dX11_highest_77 : decode cX11_highest 77 = .ok (.goto 7, 3) := by decide +kernel
theorem dX11_highest_80 : decode cX11_highest 80 = .ok (.aload_n 0, 1) := by decide +kernel
theorem dX11_highest_81 : decode cX11_highest 81 = .ok (.getfield 22, 3) := by decide +kernel
theorem dX11_highest_84 : decode cX11_highest 84 = .ok (.putfield 22, 3) := by decide +kernel
theorem dX11_highest_87 : decode cX11_highest 87 = .ok (.aload_n 0, 1) := by decide +kernel
theorem dX11_highest_88 : decode cX11_highest 88 = .ok (.getfield 16, 3) := by decide +kernel
theorem dX11_highest_91 : decode cX11_highest 91 = .ok (.iload_n 1, 1) := by decide +kernel
theorem dX11_highest_92 : decode cX11_highest 92 = .ok (.iload_n 3, 1) := by decide +kernel
theorem dX11_highest_93 : decode cX11_highest 93 = .ok (.iconst 1, 1) := by decide +kernel
theorem dX11_highest_94 : decode cX11_highest 94 = .ok (.if_icmp .ne 8, 3) := by decide +kernel
theorem dX11_highest_97 : decode cX11_highest 97 = .ok (.iload 6, 2) := by decide +kernel
theorem dX11_highest_99 : decode cX11_highest 99 = .ok (.goto 9, 3) := by decide +kernel
theorem dX11_highest_102 : decode cX11_highest 102 = .ok (.aload_n 0, 1) := by decide +kernel
theorem dX11_highest_103 : decode cX11_highest 103 = .ok (.getfield 16, 3) := by decide +kernel
theorem dX11_highest_106 : decode cX11_highest 106 = .ok (.iload_n 1, 1) := by decide +kernel
theorem dX11_highest_107 : decode cX11_highest 107 = .ok (.iaload, 1) := by decide +kernel
theorem dX11_highest_108 : decode cX11_highest 108 = .ok (.iastore, 1) := by decide +kernel
theorem dX11_highest_109 : decode cX11_highest 109 = .ok (.aload_n 0, 1) := by decide +kernel
theorem dX11_highest_110 : decode cX11_highest 110 = .ok (.iload_n 2, 1) := by decide +kernel
theorem dX11_highest_111 : decode cX11_highest 111 = .ok (.invokevirtual 185, 3) := by decide +kernel
theorem dX11_highest_114 : decode cX11_highest 114 = .ok (.aload_n 0, 1) := by decide +kernel
theorem dX11_highest_115 : decode cX11_highest 115 = .ok (.getfield 13, 3) := by decide +kernel
theorem dX11_highest_118 : decode cX11_highest 118 = .ok (.iload_n 1, 1) := by decide +kernel
theorem dX11_highest_119 : decode cX11_highest 119 = .ok (.iaload, 1) := by decide +kernel
theorem dX11_highest_120 : decode cX11_highest 120 = .ok (.ifCond .ne 16, 3) := by decide +kernel
theorem dX11_highest_123 : decode cX11_highest 123 = .ok (.iload_n 3, 1) := by decide +kernel
theorem dX11_highest_124 : decode cX11_highest 124 = .ok (.ifCond .eq 8, 3) := by decide +kernel
theorem dX11_highest_127 : decode cX11_highest 127 = .ok (.iload 5, 2) := by decide +kernel
theorem dX11_highest_129 : decode cX11_highest 129 = .ok (.ifCond .ge 7, 3) := by decide +kernel
theorem dX11_highest_132 : decode cX11_highest 132 = .ok (.iconst 1, 1) := by decide +kernel
theorem dX11_highest_133 : decode cX11_highest 133 = .ok (.goto 4, 3) := by decide +kernel
theorem dX11_highest_136 : decode cX11_highest 136 = .ok (.iconst 0, 1) := by decide +kernel
theorem dX11_highest_137 : decode cX11_highest 137 = .ok (.istore 7, 2) := by decide +kernel
theorem dX11_highest_139 : decode cX11_highest 139 = .ok (.aload_n 0, 1) := by decide +kernel
theorem dX11_highest_140 : decode cX11_highest 140 = .ok (.invokevirtual 200, 3) := by decide +kernel
theorem dX11_highest_143 : decode cX11_highest 143 = .ok (.iload 7, 2) := by decide +kernel
theorem dX11_highest_145 : decode cX11_highest 145 = .ok (.ifCond .eq 8, 3) := by decide +kernel
theorem dX11_highest_148 : decode cX11_highest 148 = .ok (.iload 6, 2) := by decide +kernel
theorem dX11_highest_150 : decode cX11_highest 150 = .ok (.goto 5, 3) := by decide +kernel
theorem dX11_highest_153 : decode cX11_highest 153 = .ok (.iload 5, 2) := by decide +kernel
theorem dX11_highest_155 : decode cX11_highest 155 = .ok (.istore 5, 2) := by decide +kernel
theorem dX11_highest_157 : decode cX11_highest 157 = .ok (.iinc 6 1, 3) := by decide +kernel
theorem dX11_highest_160 : decode cX11_highest 160 = .ok (.goto (-106), 3) := by decide +kernel
theorem dX11_highest_163 : decode cX11_highest 163 = .ok (.iload 5, 2) := by decide +kernel
theorem dX11_highest_165 : decode cX11_highest 165 = .ok (.ireturn, 1) := by decide +kernel
theorem dX11_noneOwes_0 : decode cX11_noneOwes 0 = .ok (.iconst 1, 1) := by decide +kernel
theorem dX11_noneOwes_1 : decode cX11_noneOwes 1 = .ok (.istore_n 2, 1) := by decide +kernel
theorem dX11_noneOwes_2 : decode cX11_noneOwes 2 = .ok (.iconst 0, 1) := by decide +kernel
theorem dX11_noneOwes_3 : decode cX11_noneOwes 3 = .ok (.istore_n 3, 1) := by decide +kernel
theorem dX11_noneOwes_4 : decode cX11_noneOwes 4 = .ok (.iload_n 3, 1) := by decide +kernel
theorem dX11_noneOwes_5 : decode cX11_noneOwes 5 = .ok (.aload_n 0, 1) := by decide +kernel
theorem dX11_noneOwes_6 : decode cX11_noneOwes 6 = .ok (.getfield 86, 3) := by decide +kernel
theorem dX11_noneOwes_9 : decode cX11_noneOwes 9 = .ok (.if_icmp .ge 28, 3) := by decide +kernel
theorem dX11_noneOwes_12 : decode cX11_noneOwes 12 = .ok (.iload_n 2, 1) := by decide +kernel
theorem dX11_noneOwes_13 : decode cX11_noneOwes 13 = .ok (.ifCond .eq 16, 3) := by decide +kernel
theorem dX11_noneOwes_16 : decode cX11_noneOwes 16 = .ok (.aload_n 0, 1) := by decide +kernel
theorem dX11_noneOwes_17 : decode cX11_noneOwes 17 = .ok (.iload_n 3, 1) := by decide +kernel
theorem dX11_noneOwes_18 : decode cX11_noneOwes 18 = .ok (.invokevirtual 227, 3) := by decide +kernel
theorem dX11_noneOwes_21 : decode cX11_noneOwes 21 = .ok (.iload_n 1, 1) := by decide +kernel
theorem dX11_noneOwes_22 : decode cX11_noneOwes 22 = .ok (.if_icmp .gt 7, 3) := by decide +kernel
theorem dX11_noneOwes_25 : decode cX11_noneOwes 25 = .ok (.iconst 1, 1) := by decide +kernel
theorem dX11_noneOwes_26 : decode cX11_noneOwes 26 = .ok (.goto 4, 3) := by decide +kernel
theorem dX11_noneOwes_29 : decode cX11_noneOwes 29 = .ok (.iconst 0, 1) := by decide +kernel
theorem dX11_noneOwes_30 : decode cX11_noneOwes 30 = .ok (.istore_n 2, 1) := by decide +kernel
theorem dX11_noneOwes_31 : decode cX11_noneOwes 31 = .ok (.iinc 3 1, 3) := by decide +kernel
theorem dX11_noneOwes_34 : decode cX11_noneOwes 34 = .ok (.goto (-30), 3) := by decide +kernel
theorem dX11_noneOwes_37 : decode cX11_noneOwes 37 = .ok (.iload_n 2, 1) := by decide +kernel
theorem dX11_noneOwes_38 : decode cX11_noneOwes 38 = .ok (.ireturn, 1) := by decide +kernel
theorem dX11_builtBits_0 : decode cX11_builtBits 0 = .ok (.iconst 0, 1) := by decide +kernel
theorem dX11_builtBits_1 : decode cX11_builtBits 1 = .ok (.istore_n 1, 1) := by decide +kernel
theorem dX11_builtBits_2 : decode cX11_builtBits 2 = .ok (.iconst 0, 1) := by decide +kernel
theorem dX11_builtBits_3 : decode cX11_builtBits 3 = .ok (.istore_n 2, 1) := by decide +kernel
theorem dX11_builtBits_4 : decode cX11_builtBits 4 = .ok (.iload_n 2, 1) := by decide +kernel
theorem dX11_builtBits_5 : decode cX11_builtBits 5 = .ok (.aload_n 0, 1) := by decide +kernel
theorem dX11_builtBits_6 : decode cX11_builtBits 6 = .ok (.getfield 93, 3) := by decide +kernel
theorem dX11_builtBits_9 : decode cX11_builtBits 9 = .ok (.if_icmp .ge 28, 3) := by decide +kernel
theorem dX11_builtBits_12 : decode cX11_builtBits 12 = .ok (.iload_n 1, 1) := by decide +kernel
theorem dX11_builtBits_13 : decode cX11_builtBits 13 = .ok (.aload_n 0, 1) := by decide +kernel
theorem dX11_builtBits_14 : decode cX11_builtBits 14 = .ok (.getfield 35, 3) := by decide +kernel
theorem dX11_builtBits_17 : decode cX11_builtBits 17 = .ok (.iload_n 2, 1) := by decide +kernel
theorem dX11_builtBits_18 : decode cX11_builtBits 18 = .ok (.iaload, 1) := by decide +kernel
theorem dX11_builtBits_19 : decode cX11_builtBits 19 = .ok (.ifCond .le 9, 3) := by decide +kernel
theorem dX11_builtBits_22 : decode cX11_builtBits 22 = .ok (.iconst 1, 1) := by decide +kernel
theorem dX11_builtBits_23 : decode cX11_builtBits 23 = .ok (.iload_n 2, 1) := by decide +kernel
theorem dX11_builtBits_24 : decode cX11_builtBits 24 = .ok (.ishl, 1) := by decide +kernel
theorem dX11_builtBits_25 : decode cX11_builtBits 25 = .ok (.goto 4, 3) := by decide +kernel
theorem dX11_builtBits_28 : decode cX11_builtBits 28 = .ok (.iconst 0, 1) := by decide +kernel
theorem dX11_builtBits_29 : decode cX11_builtBits 29 = .ok (.ior, 1) := by decide +kernel
theorem dX11_builtBits_30 : decode cX11_builtBits 30 = .ok (.istore_n 1, 1) := by decide +kernel
theorem dX11_builtBits_31 : decode cX11_builtBits 31 = .ok (.iinc 2 1, 3) := by decide +kernel
theorem dX11_builtBits_34 : decode cX11_builtBits 34 = .ok (.goto (-30), 3) := by decide +kernel
theorem dX11_builtBits_37 : decode cX11_builtBits 37 = .ok (.iload_n 1, 1) := by decide +kernel
theorem dX11_builtBits_38 : decode cX11_builtBits 38 = .ok (.ireturn, 1) := by decide +kernel
theorem dX11_buildAll_0 : decode cX11_buildAll 0 = .ok (.iconst 0, 1) := by decide +kernel
theorem dX11_buildAll_1 : decode cX11_buildAll 1 = .ok (.istore_n 2, 1) := by decide +kernel
theorem dX11_buildAll_2 : decode cX11_buildAll 2 = .ok (.iload_n 2, 1) := by decide +kernel
theorem dX11_buildAll_3 : decode cX11_buildAll 3 = .ok (.aload_n 0, 1) := by decide +kernel
theorem dX11_buildAll_4 : decode cX11_buildAll 4 = .ok (.getfield 93, 3) := by decide +kernel
theorem dX11_buildAll_7 : decode cX11_buildAll 7 = .ok (.if_icmp .ge 22, 3) := by decide +kernel
theorem dX11_buildAll_10 : decode cX11_buildAll 10 = .ok (.iload_n 1, 1) := by decide +kernel
theorem dX11_buildAll_11 : decode cX11_buildAll 11 = .ok (.iload_n 2, 1) := by decide +kernel
theorem dX11_buildAll_12 : decode cX11_buildAll 12 = .ok (.invokestatic 258, 3) := by decide +kernel
theorem dX11_buildAll_15 : decode cX11_buildAll 15 = .ok (.ifCond .eq 8, 3) := by decide +kernel
theorem dX11_buildAll_18 : decode cX11_buildAll 18 = .ok (.aload_n 0, 1) := by decide +kernel
theorem dX11_buildAll_19 : decode cX11_buildAll 19 = .ok (.iload_n 2, 1) := by decide +kernel
theorem dX11_buildAll_20 : decode cX11_buildAll 20 = .ok (.invokevirtual 180, 3) := by decide +kernel
theorem dX11_buildAll_23 : decode cX11_buildAll 23 = .ok (.iinc 2 1, 3) := by decide +kernel
theorem dX11_buildAll_26 : decode cX11_buildAll 26 = .ok (.goto (-24), 3) := by decide +kernel
theorem dX11_buildAll_29 : decode cX11_buildAll 29 = .ok (.return_, 1) := by decide +kernel
theorem dX11_building_0 : decode cX11_building 0 = .ok (.aload_n 0, 1) := by decide +kernel
theorem dX11_building_1 : decode cX11_building 1 = .ok (.iconst 0, 1) := by decide +kernel
theorem dX11_building_2 : decode cX11_building 2 = .ok (.putfield 83, 3) := by decide +kernel
theorem dX11_building_5 : decode cX11_building 5 = .ok (.iload_n 1, 1) := by decide +kernel
theorem dX11_building_6 : decode cX11_building 6 = .ok (.ifCond .lt 7, 3) := by decide +kernel
theorem dX11_building_9 : decode cX11_building 9 = .ok (.iload_n 2, 1) := by decide +kernel
theorem dX11_building_10 : decode cX11_building 10 = .ok (.ifCond .ge 8, 3) := by decide +kernel
theorem dX11_building_13 : decode cX11_building 13 = .ok (.bipush (-4), 2) := by decide +kernel
theorem dX11_building_15 : decode cX11_building 15 = .ok (.goto 27, 3) := by decide +kernel
theorem dX11_building_18 : decode cX11_building 18 = .ok (.iload_n 1, 1) := by decide +kernel
theorem dX11_building_19 : decode cX11_building 19 = .ok (.bipush 100, 2) := by decide +kernel
theorem dX11_building_21 : decode cX11_building 21 = .ok (.if_icmp .gt 10, 3) := by decide +kernel
theorem dX11_building_24 : decode cX11_building 24 = .ok (.iload_n 2, 1) := by decide +kernel
theorem dX11_building_25 : decode cX11_building 25 = .ok (.sipush 999, 3) := by decide +kernel
theorem dX11_building_28 : decode cX11_building 28 = .ok (.if_icmp .le 8, 3) := by decide +kernel
theorem dX11_building_31 : decode cX11_building 31 = .ok (.bipush (-6), 2) := by decide +kernel
theorem dX11_building_33 : decode cX11_building 33 = .ok (.goto 9, 3) := by decide +kernel
theorem dX11_building_36 : decode cX11_building 36 = .ok (.iconst 0, 1) := by decide +kernel
theorem dX11_building_37 : decode cX11_building 37 = .ok (.iload_n 3, 1) := by decide +kernel
theorem dX11_building_38 : decode cX11_building 38 = .ok (.iconst 1, 1) := by decide +kernel
theorem dX11_building_39 : decode cX11_building 39 = .ok (.invokestatic 241, 3) := by decide +kernel
theorem dX11_building_42 : decode cX11_building 42 = .ok (.istore 4, 2) := by decide +kernel
theorem dX11_building_44 : decode cX11_building 44 = .ok (.iload 4, 2) := by decide +kernel
theorem dX11_building_46 : decode cX11_building 46 = .ok (.ifCond .ge 10, 3) := by decide +kernel
theorem dX11_building_49 : decode cX11_building 49 = .ok (.aload_n 0, 1) := by decide +kernel
theorem dX11_building_50 : decode cX11_building 50 = .ok (.iload 4, 2) := by decide +kernel
theorem dX11_building_52 : decode cX11_building 52 = .ok (.invokevirtual 134, 3) := by decide +kernel
theorem dX11_building_55 : decode cX11_building 55 = .ok (.ireturn, 1) := by decide +kernel
theorem dX11_building_56 : decode cX11_building 56 = .ok (.aload_n 0, 1) := by decide +kernel
theorem dX11_building_57 : decode cX11_building 57 = .ok (.invokevirtual 262, 3) := by decide +kernel
theorem dX11_building_60 : decode cX11_building 60 = .ok (.istore 5, 2) := by decide +kernel
theorem dX11_building_62 : decode cX11_building 62 = .ok (.bipush (-9), 2) := by decide +kernel
theorem dX11_building_64 : decode cX11_building 64 = .ok (.istore 6, 2) := by decide +kernel
theorem dX11_building_66 : decode cX11_building 66 = .ok (.bipush (-9), 2) := by decide +kernel
theorem dX11_building_68 : decode cX11_building 68 = .ok (.istore 7, 2) := by decide +kernel
theorem dX11_building_70 : decode cX11_building 70 = .ok (.aload_n 0, 1) := by decide +kernel
theorem dX11_building_71 : decode cX11_building 71 = .ok (.invokevirtual 194, 3) := by decide +kernel
theorem dX11_building_74 : decode cX11_building 74 = .ok (.iconst 0, 1) := by decide +kernel
theorem dX11_building_75 : decode cX11_building 75 = .ok (.istore 8, 2) := by decide +kernel
theorem dX11_building_77 : decode cX11_building 77 = .ok (.iload 8, 2) := by decide +kernel
theorem dX11_building_79 : decode cX11_building 79 = .ok (.iconst 1, 1) := by decide +kernel
theorem dX11_building_80 : decode cX11_building 80 = .ok (.aload_n 0, 1) := by decide +kernel
theorem dX11_building_81 : decode cX11_building 81 = .ok (.getfield 93, 3) := by decide +kernel
theorem dX11_building_84 : decode cX11_building 84 = .ok (.ishl, 1) := by decide +kernel
theorem dX11_building_85 : decode cX11_building 85 = .ok (.if_icmp .ge 129, 3) := by decide +kernel
theorem dX11_building_88 : decode cX11_building 88 = .ok (.iload 8, 2) := by decide +kernel
theorem dX11_building_90 : decode cX11_building 90 = .ok (.iload 5, 2) := by decide +kernel
theorem dX11_building_92 : decode cX11_building 92 = .ok (.iand, 1) := by decide +kernel
theorem dX11_building_93 : decode cX11_building 93 = .ok (.ifCond .ne 115, 3) := by decide +kernel
theorem dX11_building_96 : decode cX11_building 96 = .ok (.iconst 0, 1) := by decide +kernel
theorem dX11_building_97 : decode cX11_building 97 = .ok (.istore 9, 2) := by decide +kernel
theorem dX11_building_99 : decode cX11_building 99 = .ok (.iconst 0, 1) := by decide +kernel
theorem dX11_building_100 : decode cX11_building 100 = .ok (.istore 10, 2) := by decide +kernel
theorem dX11_building_102 : decode cX11_building 102 = .ok (.iload 10, 2) := by decide +kernel
theorem dX11_building_104 : decode cX11_building 104 = .ok (.aload_n 0, 1) := by decide +kernel
theorem dX11_building_105 : decode cX11_building 105 = .ok (.getfield 93, 3) := by decide +kernel
theorem dX11_building_108 : decode cX11_building 108 = .ok (.if_icmp .ge 35, 3) := by decide +kernel
theorem dX11_building_111 : decode cX11_building 111 = .ok (.iload 9, 2) := by decide +kernel
theorem dX11_building_113 : decode cX11_building 113 = .ok (.iload 8, 2) := by decide +kernel
theorem dX11_building_115 : decode cX11_building 115 = .ok (.iload 10, 2) := by decide +kernel
theorem dX11_building_117 : decode cX11_building 117 = .ok (.invokestatic 258, 3) := by decide +kernel
theorem dX11_building_120 : decode cX11_building 120 = .ok (.ifCond .eq 13, 3) := by decide +kernel
theorem dX11_building_123 : decode cX11_building 123 = .ok (.aload_n 0, 1) := by decide +kernel
theorem dX11_building_124 : decode cX11_building 124 = .ok (.getfield 32, 3) := by decide +kernel
theorem dX11_building_127 : decode cX11_building 127 = .ok (.iload 10, 2) := by decide +kernel
theorem dX11_building_129 : decode cX11_building 129 = .ok (.iaload, 1) := by decide +kernel
theorem dX11_building_130 : decode cX11_building 130 = .ok (.goto 4, 3) := by decide +kernel
theorem dX11_building_133 : decode cX11_building 133 = .ok (.iconst 0, 1) := by decide +kernel
theorem dX11_building_134 : decode cX11_building 134 = .ok (.iadd, 1) := by decide +kernel
theorem dX11_building_135 : decode cX11_building 135 = .ok (.istore 9, 2) := by decide +kernel
theorem dX11_building_137 : decode cX11_building 137 = .ok (.iinc 10 1, 3) := by decide +kernel
theorem dX11_building_140 : decode cX11_building 140 = .ok (.goto (-38), 3) := by decide +kernel
theorem dX11_building_143 : decode cX11_building 143 = .ok (.aload_n 0, 1) := by decide +kernel
theorem dX11_building_144 : decode cX11_building 144 = .ok (.iload 8, 2) := by decide +kernel
theorem dX11_building_146 : decode cX11_building 146 = .ok (.invokevirtual 265, 3) := by decide +kernel
theorem dX11_building_149 : decode cX11_building 149 = .ok (.aload_n 0, 1) := by decide +kernel
theorem dX11_building_150 : decode cX11_building 150 = .ok (.iload_n 1, 1) := by decide +kernel
theorem dX11_building_151 : decode cX11_building 151 = .ok (.invokevirtual 185, 3) := by decide +kernel
theorem dX11_building_154 : decode cX11_building 154 = .ok (.aload_n 0, 1) := by decide +kernel
theorem dX11_building_155 : decode cX11_building 155 = .ok (.iload_n 2, 1) := by decide +kernel
theorem dX11_building_156 : decode cX11_building 156 = .ok (.invokevirtual 268, 3) := by decide +kernel
theorem dX11_building_159 : decode cX11_building 159 = .ok (.ifCond .eq 14, 3) := by decide +kernel
theorem dX11_building_162 : decode cX11_building 162 = .ok (.iload 9, 2) := by decide +kernel
theorem dX11_building_164 : decode cX11_building 164 = .ok (.iload 7, 2) := by decide +kernel
theorem dX11_building_166 : decode cX11_building 166 = .ok (.if_icmp .le 7, 3) := by decide +kernel
theorem dX11_building_169 : decode cX11_building 169 = .ok (.iconst 1, 1) := by decide +kernel
theorem dX11_building_170 : decode cX11_building 170 = .ok (.goto 4, 3) := by decide +kernel
theorem dX11_building_173 : decode cX11_building 173 = .ok (.iconst 0, 1) := by decide +kernel
theorem dX11_building_174 : decode cX11_building 174 = .ok (.istore 10, 2) := by decide +kernel
theorem dX11_building_176 : decode cX11_building 176 = .ok (.aload_n 0, 1) := by decide +kernel
theorem dX11_building_177 : decode cX11_building 177 = .ok (.invokevirtual 200, 3) := by decide +kernel
theorem dX11_building_180 : decode cX11_building 180 = .ok (.iload 10, 2) := by decide +kernel
theorem dX11_building_182 : decode cX11_building 182 = .ok (.ifCond .eq 8, 3) := by decide +kernel
theorem dX11_building_185 : decode cX11_building 185 = .ok (.iload 8, 2) := by decide +kernel
theorem dX11_building_187 : decode cX11_building 187 = .ok (.goto 5, 3) := by decide +kernel
theorem dX11_building_190 : decode cX11_building 190 = .ok (.iload 6, 2) := by decide +kernel
theorem dX11_building_192 : decode cX11_building 192 = .ok (.istore 6, 2) := by decide +kernel
theorem dX11_building_194 : decode cX11_building 194 = .ok (.iload 10, 2) := by decide +kernel
theorem dX11_building_196 : decode cX11_building 196 = .ok (.ifCond .eq 8, 3) := by decide +kernel
theorem dX11_building_199 : decode cX11_building 199 = .ok (.iload 9, 2) := by decide +kernel
theorem dX11_building_201 : decode cX11_building 201 = .ok (.goto 5, 3) := by decide +kernel
theorem dX11_building_204 : decode cX11_building 204 = .ok (.iload 7, 2) := by decide +kernel
theorem dX11_building_206 : decode cX11_building 206 = .ok (.istore 7, 2) := by decide +kernel
theorem dX11_building_208 : decode cX11_building 208 = .ok (.iinc 8 1, 3) := by decide +kernel
theorem dX11_building_211 : decode cX11_building 211 = .ok (.goto (-134), 3) := by decide +kernel
theorem dX11_building_214 : decode cX11_building 214 = .ok (.iload_n 3, 1) := by decide +kernel
theorem dX11_building_215 : decode cX11_building 215 = .ok (.ifCond .ne 8, 3) := by decide +kernel
theorem dX11_building_218 : decode cX11_building 218 = .ok (.iload 6, 2) := by decide +kernel
theorem dX11_building_220 : decode cX11_building 220 = .ok (.goto 5, 3) := by decide +kernel
theorem dX11_building_223 : decode cX11_building 223 = .ok (.iload 7, 2) := by decide +kernel
theorem dX11_building_225 : decode cX11_building 225 = .ok (.ireturn, 1) := by decide +kernel
theorem dX11_oneMore_0 : decode cX11_oneMore 0 = .ok (.aload_n 0, 1) := by decide +kernel
theorem dX11_oneMore_1 : decode cX11_oneMore 1 = .ok (.iconst 0, 1) := by decide +kernel
theorem dX11_oneMore_2 : decode cX11_oneMore 2 = .ok (.putfield 83, 3) := by decide +kernel
theorem dX11_oneMore_5 : decode cX11_oneMore 5 = .ok (.iload_n 1, 1) := by decide +kernel
theorem dX11_oneMore_6 : decode cX11_oneMore 6 = .ok (.iconst 0, 1) := by decide +kernel
theorem dX11_oneMore_7 : decode cX11_oneMore 7 = .ok (.bipush 100, 2) := by decide +kernel
theorem dX11_oneMore_9 : decode cX11_oneMore 9 = .ok (.invokestatic 238, 3) := by decide +kernel
theorem dX11_oneMore_12 : decode cX11_oneMore 12 = .ok (.ifCond .ge 15, 3) := by decide +kernel
theorem dX11_oneMore_15 : decode cX11_oneMore 15 = .ok (.aload_n 0, 1) := by decide +kernel
theorem dX11_oneMore_16 : decode cX11_oneMore 16 = .ok (.iload_n 1, 1) := by decide +kernel
theorem dX11_oneMore_17 : decode cX11_oneMore 17 = .ok (.iconst 0, 1) := by decide +kernel
theorem dX11_oneMore_18 : decode cX11_oneMore 18 = .ok (.bipush 100, 2) := by decide +kernel
theorem dX11_oneMore_20 : decode cX11_oneMore 20 = .ok (.invokestatic 238, 3) := by decide +kernel
theorem dX11_oneMore_23 : decode cX11_oneMore 23 = .ok (.invokevirtual 134, 3) := by decide +kernel
theorem dX11_oneMore_26 : decode cX11_oneMore 26 = .ok (.ireturn, 1) := by decide +kernel
theorem dX11_oneMore_27 : decode cX11_oneMore 27 = .ok (.bipush (-9), 2) := by decide +kernel
theorem dX11_oneMore_29 : decode cX11_oneMore 29 = .ok (.istore_n 2, 1) := by decide +kernel
theorem dX11_oneMore_30 : decode cX11_oneMore 30 = .ok (.ldc_w 271, 3) := by decide +kernel
theorem dX11_oneMore_33 : decode cX11_oneMore 33 = .ok (.istore_n 3, 1) := by decide +kernel
theorem dX11_oneMore_34 : decode cX11_oneMore 34 = .ok (.aload_n 0, 1) := by decide +kernel
theorem dX11_oneMore_35 : decode cX11_oneMore 35 = .ok (.invokevirtual 194, 3) := by decide +kernel
theorem dX11_oneMore_38 : decode cX11_oneMore 38 = .ok (.iconst 0, 1) := by decide +kernel
theorem dX11_oneMore_39 : decode cX11_oneMore 39 = .ok (.istore 4, 2) := by decide +kernel
theorem dX11_oneMore_41 : decode cX11_oneMore 41 = .ok (.iload 4, 2) := by decide +kernel
theorem dX11_oneMore_43 : decode cX11_oneMore 43 = .ok (.aload_n 0, 1) := by decide +kernel
theorem dX11_oneMore_44 : decode cX11_oneMore 44 = .ok (.getfield 93, 3) := by decide +kernel
theorem dX11_oneMore_47 : decode cX11_oneMore 47 = .ok (.if_icmp .ge 58, 3) := by decide +kernel
theorem dX11_oneMore_50 : decode cX11_oneMore 50 = .ok (.aload_n 0, 1) := by decide +kernel
theorem dX11_oneMore_51 : decode cX11_oneMore 51 = .ok (.getfield 35, 3) := by decide +kernel
theorem dX11_oneMore_54 : decode cX11_oneMore 54 = .ok (.iload 4, 2) := by decide +kernel
theorem dX11_oneMore_56 : decode cX11_oneMore 56 = .ok (.iaload, 1) := by decide +kernel
theorem dX11_oneMore_57 : decode cX11_oneMore 57 = .ok (.ifCond .ne 42, 3) := by decide +kernel
theorem dX11_oneMore_60 : decode cX11_oneMore 60 = .ok (.aload_n 0, 1) := by decide +kernel
theorem dX11_oneMore_61 : decode cX11_oneMore 61 = .ok (.iload 4, 2) := by decide +kernel
theorem dX11_oneMore_63 : decode cX11_oneMore 63 = .ok (.invokevirtual 180, 3) := by decide +kernel
theorem dX11_oneMore_66 : decode cX11_oneMore 66 = .ok (.aload_n 0, 1) := by decide +kernel
theorem dX11_oneMore_67 : decode cX11_oneMore 67 = .ok (.iload_n 1, 1) := by decide +kernel
theorem dX11_oneMore_68 : decode cX11_oneMore 68 = .ok (.invokevirtual 244, 3) := by decide +kernel
theorem dX11_oneMore_71 : decode cX11_oneMore 71 = .ok (.istore 5, 2) := by decide +kernel
theorem dX11_oneMore_73 : decode cX11_oneMore 73 = .ok (.iload 5, 2) := by decide +kernel
theorem dX11_oneMore_75 : decode cX11_oneMore 75 = .ok (.iload_n 3, 1) := by decide +kernel
theorem dX11_oneMore_76 : decode cX11_oneMore 76 = .ok (.if_icmp .ge 8, 3) := by decide +kernel
theorem dX11_oneMore_79 : decode cX11_oneMore 79 = .ok (.iload 4, 2) := by decide +kernel
theorem dX11_oneMore_81 : decode cX11_oneMore 81 = .ok (.goto 4, 3) := by decide +kernel
theorem dX11_oneMore_84 : decode cX11_oneMore 84 = .ok (.iload_n 2, 1) := by decide +kernel
theorem dX11_oneMore_85 : decode cX11_oneMore 85 = .ok (.istore_n 2, 1) := by decide +kernel
theorem dX11_oneMore_86 : decode cX11_oneMore 86 = .ok (.iload 5, 2) := by decide +kernel
theorem dX11_oneMore_88 : decode cX11_oneMore 88 = .ok (.iload_n 3, 1) := by decide +kernel
theorem dX11_oneMore_89 : decode cX11_oneMore 89 = .ok (.if_icmp .ge 8, 3) := by decide +kernel
theorem dX11_oneMore_92 : decode cX11_oneMore 92 = .ok (.iload 5, 2) := by decide +kernel
theorem dX11_oneMore_94 : decode cX11_oneMore 94 = .ok (.goto 4, 3) := by decide +kernel
theorem dX11_oneMore_97 : decode cX11_oneMore 97 = .ok (.iload_n 3, 1) := by decide +kernel
theorem dX11_oneMore_98 : decode cX11_oneMore 98 = .ok (.istore_n 3, 1) := by decide +kernel
theorem dX11_oneMore_99 : decode cX11_oneMore 99 = .ok (.iinc 4 1, 3) := by decide +kernel
theorem dX11_oneMore_102 : decode cX11_oneMore 102 = .ok (.goto (-61), 3) := by decide +kernel
theorem dX11_oneMore_105 : decode cX11_oneMore 105 = .ok (.iload_n 2, 1) := by decide +kernel
theorem dX11_oneMore_106 : decode cX11_oneMore 106 = .ok (.ireturn, 1) := by decide +kernel
theorem dX11_share_0 : decode cX11_share 0 = .ok (.aload_n 0, 1) := by decide +kernel
theorem dX11_share_1 : decode cX11_share 1 = .ok (.iconst 0, 1) := by decide +kernel
theorem dX11_share_2 : decode cX11_share 2 = .ok (.putfield 83, 3) := by decide +kernel
theorem dX11_share_5 : decode cX11_share 5 = .ok (.aload_n 0, 1) := by decide +kernel
theorem dX11_share_6 : decode cX11_share 6 = .ok (.iload_n 1, 1) := by decide +kernel
theorem dX11_share_7 : decode cX11_share 7 = .ok (.invokevirtual 177, 3) := by decide +kernel
theorem dX11_share_10 : decode cX11_share 10 = .ok (.ifCond .eq 11, 3) := by decide +kernel
theorem dX11_share_13 : decode cX11_share 13 = .ok (.aload_n 0, 1) := by decide +kernel
theorem dX11_share_14 : decode cX11_share 14 = .ok (.iload_n 2, 1) := by decide +kernel
theorem dX11_share_15 : decode cX11_share 15 = .ok (.invokevirtual 188, 3) := by decide +kernel
theorem dX11_share_18 : decode cX11_share 18 = .ok (.ifCond .ne 9, 3) := by decide +kernel
theorem dX11_share_21 : decode cX11_share 21 = .ok (.aload_n 0, 1) := by decide +kernel
theorem dX11_share_22 : decode cX11_share 22 = .ok (.iconst (-1), 1) := by decide +kernel
theorem dX11_share_23 : decode cX11_share 23 = .ok (.invokevirtual 134, 3) := by decide +kernel
theorem dX11_share_26 : decode cX11_share 26 = .ok (.ireturn, 1) := by decide +kernel
theorem dX11_share_27 : decode cX11_share 27 = .ok (.aload_n 0, 1) := by decide +kernel
theorem dX11_share_28 : decode cX11_share 28 = .ok (.iload_n 1, 1) := by decide +kernel
theorem dX11_share_29 : decode cX11_share 29 = .ok (.invokevirtual 116, 3) := by decide +kernel
theorem dX11_share_32 : decode cX11_share 32 = .ok (.aload_n 0, 1) := by decide +kernel
theorem dX11_share_33 : decode cX11_share 33 = .ok (.getfield 41, 3) := by decide +kernel
theorem dX11_share_36 : decode cX11_share 36 = .ok (.iload_n 2, 1) := by decide +kernel
theorem dX11_share_37 : decode cX11_share 37 = .ok (.iaload, 1) := by decide +kernel
theorem dX11_share_38 : decode cX11_share 38 = .ok (.ireturn, 1) := by decide +kernel
theorem dX11_pulledDown_0 : decode cX11_pulledDown 0 = .ok (.aload_n 0, 1) := by decide +kernel
theorem dX11_pulledDown_1 : decode cX11_pulledDown 1 = .ok (.iconst 0, 1) := by decide +kernel
theorem dX11_pulledDown_2 : decode cX11_pulledDown 2 = .ok (.putfield 83, 3) := by decide +kernel
theorem dX11_pulledDown_5 : decode cX11_pulledDown 5 = .ok (.aload_n 0, 1) := by decide +kernel
theorem dX11_pulledDown_6 : decode cX11_pulledDown 6 = .ok (.iload_n 1, 1) := by decide +kernel
theorem dX11_pulledDown_7 : decode cX11_pulledDown 7 = .ok (.invokevirtual 177, 3) := by decide +kernel
theorem dX11_pulledDown_10 : decode cX11_pulledDown 10 = .ok (.ifCond .eq 21, 3) := by decide +kernel
theorem dX11_pulledDown_13 : decode cX11_pulledDown 13 = .ok (.aload_n 0, 1) := by decide +kernel
theorem dX11_pulledDown_14 : decode cX11_pulledDown 14 = .ok (.iload_n 2, 1) := by decide +kernel
theorem dX11_pulledDown_15 : decode cX11_pulledDown 15 = .ok (.invokevirtual 188, 3) := by decide +kernel
theorem dX11_pulledDown_18 : decode cX11_pulledDown 18 = .ok (.ifCond .eq 13, 3) := by decide +kernel
theorem dX11_pulledDown_21 : decode cX11_pulledDown 21 = .ok (.iload_n 3, 1) := by decide +kernel
theorem dX11_pulledDown_22 : decode cX11_pulledDown 22 = .ok (.iconst 0, 1) := by decide +kernel
theorem dX11_pulledDown_23 : decode cX11_pulledDown 23 = .ok (.bipush 100, 2) := by decide +kernel
theorem dX11_pulledDown_25 : decode cX11_pulledDown 25 = .ok (.invokestatic 238, 3) := by decide +kernel
theorem dX11_pulledDown_28 : decode cX11_pulledDown 28 = .ok (.goto 4, 3) := by decide +kernel
theorem dX11_pulledDown_31 : decode cX11_pulledDown 31 = .ok (.iconst (-1), 1) := by decide +kernel
theorem dX11_pulledDown_32 : decode cX11_pulledDown 32 = .ok (.istore 4, 2) := by decide +kernel
theorem dX11_pulledDown_34 : decode cX11_pulledDown 34 = .ok (.iload 4, 2) := by decide +kernel
theorem dX11_pulledDown_36 : decode cX11_pulledDown 36 = .ok (.ifCond .ge 10, 3) := by decide +kernel
theorem dX11_pulledDown_39 : decode cX11_pulledDown 39 = .ok (.aload_n 0, 1) := by decide +kernel
theorem dX11_pulledDown_40 : decode cX11_pulledDown 40 = .ok (.iload 4, 2) := by decide +kernel
theorem dX11_pulledDown_42 : decode cX11_pulledDown 42 = .ok (.invokevirtual 134, 3) := by decide +kernel
theorem dX11_pulledDown_45 : decode cX11_pulledDown 45 = .ok (.ireturn, 1) := by decide +kernel
theorem dX11_pulledDown_46 : decode cX11_pulledDown 46 = .ok (.aload_n 0, 1) := by decide +kernel
theorem dX11_pulledDown_47 : decode cX11_pulledDown 47 = .ok (.iload_n 1, 1) := by decide +kernel
theorem dX11_pulledDown_48 : decode cX11_pulledDown 48 = .ok (.invokevirtual 116, 3) := by decide +kernel
theorem dX11_pulledDown_51 : decode cX11_pulledDown 51 = .ok (.aload_n 0, 1) := by decide +kernel
theorem dX11_pulledDown_52 : decode cX11_pulledDown 52 = .ok (.getfield 41, 3) := by decide +kernel
theorem dX11_pulledDown_55 : decode cX11_pulledDown 55 = .ok (.iload_n 2, 1) := by decide +kernel
theorem dX11_pulledDown_56 : decode cX11_pulledDown 56 = .ok (.iaload, 1) := by decide +kernel
theorem dX11_pulledDown_57 : decode cX11_pulledDown 57 = .ok (.istore 5, 2) := by decide +kernel
theorem dX11_pulledDown_59 : decode cX11_pulledDown 59 = .ok (.aload_n 0, 1) := by decide +kernel
theorem dX11_pulledDown_60 : decode cX11_pulledDown 60 = .ok (.invokevirtual 194, 3) := by decide +kernel
theorem dX11_pulledDown_63 : decode cX11_pulledDown 63 = .ok (.aload_n 0, 1) := by decide +kernel
theorem dX11_pulledDown_64 : decode cX11_pulledDown 64 = .ok (.iload_n 3, 1) := by decide +kernel
theorem dX11_pulledDown_65 : decode cX11_pulledDown 65 = .ok (.invokevirtual 185, 3) := by decide +kernel
theorem dX11_pulledDown_68 : decode cX11_pulledDown 68 = .ok (.aload_n 0, 1) := by decide +kernel
theorem dX11_pulledDown_69 : decode cX11_pulledDown 69 = .ok (.getfield 13, 3) := by decide +kernel
theorem dX11_pulledDown_72 : decode cX11_pulledDown 72 = .ok (.iload_n 2, 1) := by decide +kernel
theorem dX11_pulledDown_73 : decode cX11_pulledDown 73 = .ok (.iaload, 1) := by decide +kernel
theorem dX11_pulledDown_74 : decode cX11_pulledDown 74 = .ok (.istore 6, 2) := by decide +kernel
theorem dX11_pulledDown_76 : decode cX11_pulledDown 76 = .ok (.aload_n 0, 1) := by decide +kernel
theorem dX11_pulledDown_77 : decode cX11_pulledDown 77 = .ok (.invokevirtual 200, 3) := by decide +kernel
theorem dX11_pulledDown_80 : decode cX11_pulledDown 80 = .ok (.aload_n 0, 1) := by decide +kernel
theorem dX11_pulledDown_81 : decode cX11_pulledDown 81 = .ok (.getfield 13, 3) := by decide +kernel
theorem dX11_pulledDown_84 : decode cX11_pulledDown 84 = .ok (.iload_n 2, 1) := by decide +kernel
theorem dX11_pulledDown_85 : decode cX11_pulledDown 85 = .ok (.aload_n 0, 1) := by decide +kernel
theorem dX11_pulledDown_86 : decode cX11_pulledDown 86 = .ok (.getfield 13, 3) := by decide +kernel
theorem dX11_pulledDown_89 : decode cX11_pulledDown 89 = .ok (.iload_n 2, 1) := by decide +kernel
theorem dX11_pulledDown_90 : decode cX11_pulledDown 90 = .ok (.iaload, 1) := by decide +kernel
theorem dX11_pulledDown_91 : decode cX11_pulledDown 91 = .ok (.iload 5, 2) := by decide +kernel
theorem dX11_pulledDown_93 : decode cX11_pulledDown 93 = .ok (.isub, 1) := by decide +kernel
theorem dX11_pulledDown_94 : decode cX11_pulledDown 94 = .ok (.iconst 0, 1) := by decide +kernel
theorem dX11_pulledDown_95 : decode cX11_pulledDown 95 = .ok (.ldc 96, 2) := by decide +kernel
theorem dX11_pulledDown_97 : decode cX11_pulledDown 97 = .ok (.invokestatic 97, 3) := by decide +kernel
theorem dX11_pulledDown_100 : decode cX11_pulledDown 100 = .ok (.iastore, 1) := by decide +kernel
theorem dX11_pulledDown_101 : decode cX11_pulledDown 101 = .ok (.aload_n 0, 1) := by decide +kernel
theorem dX11_pulledDown_102 : decode cX11_pulledDown 102 = .ok (.iload_n 3, 1) := by decide +kernel
theorem dX11_pulledDown_103 : decode cX11_pulledDown 103 = .ok (.invokevirtual 185, 3) := by decide +kernel
theorem dX11_pulledDown_106 : decode cX11_pulledDown 106 = .ok (.aload_n 0, 1) := by decide +kernel
theorem dX11_pulledDown_107 : decode cX11_pulledDown 107 = .ok (.getfield 13, 3) := by decide +kernel
theorem dX11_pulledDown_110 : decode cX11_pulledDown 110 = .ok (.iload_n 2, 1) := by decide +kernel
theorem dX11_pulledDown_111 : decode cX11_pulledDown 111 = .ok (.iaload, 1) := by decide +kernel
theorem dX11_pulledDown_112 : decode cX11_pulledDown 112 = .ok (.istore 7, 2) := by decide +kernel
theorem dX11_pulledDown_114 : decode cX11_pulledDown 114 = .ok (.aload_n 0, 1) := by decide +kernel
theorem dX11_pulledDown_115 : decode cX11_pulledDown 115 = .ok (.invokevirtual 200, 3) := by decide +kernel
theorem dX11_pulledDown_118 : decode cX11_pulledDown 118 = .ok (.iload 6, 2) := by decide +kernel
theorem dX11_pulledDown_120 : decode cX11_pulledDown 120 = .ok (.iload 7, 2) := by decide +kernel
theorem dX11_pulledDown_122 : decode cX11_pulledDown 122 = .ok (.isub, 1) := by decide +kernel
theorem dX11_pulledDown_123 : decode cX11_pulledDown 123 = .ok (.ireturn, 1) := by decide +kernel
theorem dX11_headIn_0 : decode cX11_headIn 0 = .ok (.aload_n 0, 1) := by decide +kernel
theorem dX11_headIn_1 : decode cX11_headIn 1 = .ok (.invokevirtual 194, 3) := by decide +kernel
theorem dX11_headIn_4 : decode cX11_headIn 4 = .ok (.aload_n 0, 1) := by decide +kernel
theorem dX11_headIn_5 : decode cX11_headIn 5 = .ok (.iload_n 2, 1) := by decide +kernel
theorem dX11_headIn_6 : decode cX11_headIn 6 = .ok (.invokevirtual 185, 3) := by decide +kernel
theorem dX11_headIn_9 : decode cX11_headIn 9 = .ok (.aload_n 0, 1) := by decide +kernel
theorem dX11_headIn_10 : decode cX11_headIn 10 = .ok (.iload_n 1, 1) := by decide +kernel
theorem dX11_headIn_11 : decode cX11_headIn 11 = .ok (.invokevirtual 227, 3) := by decide +kernel
theorem dX11_headIn_14 : decode cX11_headIn 14 = .ok (.istore_n 3, 1) := by decide +kernel
theorem dX11_headIn_15 : decode cX11_headIn 15 = .ok (.aload_n 0, 1) := by decide +kernel
theorem dX11_headIn_16 : decode cX11_headIn 16 = .ok (.invokevirtual 200, 3) := by decide +kernel
theorem dX11_headIn_19 : decode cX11_headIn 19 = .ok (.iload_n 3, 1) := by decide +kernel
theorem dX11_headIn_20 : decode cX11_headIn 20 = .ok (.ireturn, 1) := by decide +kernel
theorem dX11_mergedIn_0 : decode cX11_mergedIn 0 = .ok (.aload_n 0, 1) := by decide +kernel
theorem dX11_mergedIn_1 : decode cX11_mergedIn 1 = .ok (.invokevirtual 194, 3) := by decide +kernel
theorem dX11_mergedIn_4 : decode cX11_mergedIn 4 = .ok (.aload_n 0, 1) := by decide +kernel
theorem dX11_mergedIn_5 : decode cX11_mergedIn 5 = .ok (.getfield 7, 3) := by decide +kernel
theorem dX11_mergedIn_8 : decode cX11_mergedIn 8 = .ok (.iload_n 1, 1) := by decide +kernel
theorem dX11_mergedIn_9 : decode cX11_mergedIn 9 = .ok (.aload_n 0, 1) := by decide +kernel
theorem dX11_mergedIn_10 : decode cX11_mergedIn 10 = .ok (.getfield 7, 3) := by decide +kernel
theorem dX11_mergedIn_13 : decode cX11_mergedIn 13 = .ok (.iload_n 1, 1) := by decide +kernel
theorem dX11_mergedIn_14 : decode cX11_mergedIn 14 = .ok (.iaload, 1) := by decide +kernel
theorem dX11_mergedIn_15 : decode cX11_mergedIn 15 = .ok (.aload_n 0, 1) := by decide +kernel
theorem dX11_mergedIn_16 : decode cX11_mergedIn 16 = .ok (.getfield 7, 3) := by decide +kernel
theorem dX11_mergedIn_19 : decode cX11_mergedIn 19 = .ok (.iload_n 2, 1) := by decide +kernel
theorem dX11_mergedIn_20 : decode cX11_mergedIn 20 = .ok (.iaload, 1) := by decide +kernel
theorem dX11_mergedIn_21 : decode cX11_mergedIn 21 = .ok (.iadd, 1) := by decide +kernel
theorem dX11_mergedIn_22 : decode cX11_mergedIn 22 = .ok (.iconst 1, 1) := by decide +kernel
theorem dX11_mergedIn_23 : decode cX11_mergedIn 23 = .ok (.bipush 20, 2) := by decide +kernel
theorem dX11_mergedIn_25 : decode cX11_mergedIn 25 = .ok (.invokestatic 97, 3) := by decide +kernel
theorem dX11_mergedIn_28 : decode cX11_mergedIn 28 = .ok (.iastore, 1) := by decide +kernel
theorem dX11_mergedIn_29 : decode cX11_mergedIn 29 = .ok (.aload_n 0, 1) := by decide +kernel
theorem dX11_mergedIn_30 : decode cX11_mergedIn 30 = .ok (.getfield 13, 3) := by decide +kernel
theorem dX11_mergedIn_33 : decode cX11_mergedIn 33 = .ok (.iload_n 1, 1) := by decide +kernel
theorem dX11_mergedIn_34 : decode cX11_mergedIn 34 = .ok (.aload_n 0, 1) := by decide +kernel
theorem dX11_mergedIn_35 : decode cX11_mergedIn 35 = .ok (.getfield 13, 3) := by decide +kernel
theorem dX11_mergedIn_38 : decode cX11_mergedIn 38 = .ok (.iload_n 1, 1) := by decide +kernel
theorem dX11_mergedIn_39 : decode cX11_mergedIn 39 = .ok (.iaload, 1) := by decide +kernel
theorem dX11_mergedIn_40 : decode cX11_mergedIn 40 = .ok (.aload_n 0, 1) := by decide +kernel
theorem dX11_mergedIn_41 : decode cX11_mergedIn 41 = .ok (.getfield 13, 3) := by decide +kernel
theorem dX11_mergedIn_44 : decode cX11_mergedIn 44 = .ok (.iload_n 2, 1) := by decide +kernel
theorem dX11_mergedIn_45 : decode cX11_mergedIn 45 = .ok (.iaload, 1) := by decide +kernel
theorem dX11_mergedIn_46 : decode cX11_mergedIn 46 = .ok (.iadd, 1) := by decide +kernel
theorem dX11_mergedIn_47 : decode cX11_mergedIn 47 = .ok (.iconst 0, 1) := by decide +kernel
theorem dX11_mergedIn_48 : decode cX11_mergedIn 48 = .ok (.ldc 96, 2) := by decide +kernel
theorem dX11_mergedIn_50 : decode cX11_mergedIn 50 = .ok (.invokestatic 97, 3) := by decide +kernel
theorem dX11_mergedIn_53 : decode cX11_mergedIn 53 = .ok (.iastore, 1) := by decide +kernel
theorem dX11_mergedIn_54 : decode cX11_mergedIn 54 = .ok (.aload_n 0, 1) := by decide +kernel
theorem dX11_mergedIn_55 : decode cX11_mergedIn 55 = .ok (.iload_n 3, 1) := by decide +kernel
theorem dX11_mergedIn_56 : decode cX11_mergedIn 56 = .ok (.invokevirtual 185, 3) := by decide +kernel
theorem dX11_mergedIn_59 : decode cX11_mergedIn 59 = .ok (.aload_n 0, 1) := by decide +kernel
theorem dX11_mergedIn_60 : decode cX11_mergedIn 60 = .ok (.iload_n 1, 1) := by decide +kernel
theorem dX11_mergedIn_61 : decode cX11_mergedIn 61 = .ok (.invokevirtual 227, 3) := by decide +kernel
theorem dX11_mergedIn_64 : decode cX11_mergedIn 64 = .ok (.istore 4, 2) := by decide +kernel
theorem dX11_mergedIn_66 : decode cX11_mergedIn 66 = .ok (.aload_n 0, 1) := by decide +kernel
theorem dX11_mergedIn_67 : decode cX11_mergedIn 67 = .ok (.invokevirtual 200, 3) := by decide +kernel
theorem dX11_mergedIn_70 : decode cX11_mergedIn 70 = .ok (.iload 4, 2) := by decide +kernel
theorem dX11_mergedIn_72 : decode cX11_mergedIn 72 = .ok (.ireturn, 1) := by decide +kernel
theorem dX11_merger_0 : decode cX11_merger 0 = .ok (.aload_n 0, 1) := by decide +kernel
theorem dX11_merger_1 : decode cX11_merger 1 = .ok (.iconst 0, 1) := by decide +kernel
theorem dX11_merger_2 : decode cX11_merger 2 = .ok (.putfield 83, 3) := by decide +kernel
theorem dX11_merger_5 : decode cX11_merger 5 = .ok (.aload_n 0, 1) := by decide +kernel
theorem dX11_merger_6 : decode cX11_merger 6 = .ok (.iload_n 1, 1) := by decide +kernel
theorem dX11_merger_7 : decode cX11_merger 7 = .ok (.invokevirtual 188, 3) := by decide +kernel
theorem dX11_merger_10 : decode cX11_merger 10 = .ok (.ifCond .eq 26, 3) := by decide +kernel
theorem dX11_merger_13 : decode cX11_merger 13 = .ok (.aload_n 0, 1) := by decide +kernel
theorem dX11_merger_14 : decode cX11_merger 14 = .ok (.iload_n 2, 1) := by decide +kernel
theorem dX11_merger_15 : decode cX11_merger 15 = .ok (.invokevirtual 188, 3) := by decide +kernel
theorem dX11_merger_18 : decode cX11_merger 18 = .ok (.ifCond .eq 18, 3) := by decide +kernel
theorem dX11_merger_21 : decode cX11_merger 21 = .ok (.iload_n 1, 1) := by decide +kernel
theorem dX11_merger_22 : decode cX11_merger 22 = .ok (.iload_n 2, 1) := by decide +kernel
theorem dX11_merger_23 : decode cX11_merger 23 = .ok (.if_icmp .eq 13, 3) := by decide +kernel
theorem dX11_merger_26 : decode cX11_merger 26 = .ok (.iload_n 3, 1) := by decide +kernel
theorem dX11_merger_27 : decode cX11_merger 27 = .ok (.iconst 0, 1) := by decide +kernel
theorem dX11_merger_28 : decode cX11_merger 28 = .ok (.bipush 100, 2) := by decide +kernel
theorem dX11_merger_30 : decode cX11_merger 30 = .ok (.invokestatic 238, 3) := by decide +kernel
theorem dX11_merger_33 : decode cX11_merger 33 = .ok (.goto 4, 3) := by decide +kernel
theorem dX11_merger_36 : decode cX11_merger 36 = .ok (.iconst (-1), 1) := by decide +kernel
theorem dX11_merger_37 : decode cX11_merger 37 = .ok (.istore 4, 2) := by decide +kernel
theorem dX11_merger_39 : decode cX11_merger 39 = .ok (.iload 4, 2) := by decide +kernel
theorem dX11_merger_41 : decode cX11_merger 41 = .ok (.ifCond .ge 12, 3) := by decide +kernel
theorem dX11_merger_44 : decode cX11_merger 44 = .ok (.aload_n 0, 1) := by decide +kernel
theorem dX11_merger_45 : decode cX11_merger 45 = .ok (.iload 4, 2) := by decide +kernel
theorem dX11_merger_47 : decode cX11_merger 47 = .ok (.invokevirtual 134, 3) := by decide +kernel
theorem dX11_merger_50 : decode cX11_merger 50 = .ok (.goto 10, 3) := by decide +kernel
theorem dX11_merger_53 : decode cX11_merger 53 = .ok (.aload_n 0, 1) := by decide +kernel
theorem dX11_merger_54 : decode cX11_merger 54 = .ok (.iload_n 1, 1) := by decide +kernel
theorem dX11_merger_55 : decode cX11_merger 55 = .ok (.iload_n 2, 1) := by decide +kernel
theorem dX11_merger_56 : decode cX11_merger 56 = .ok (.iload_n 3, 1) := by decide +kernel
theorem dX11_merger_57 : decode cX11_merger 57 = .ok (.invokevirtual 272, 3) := by decide +kernel
theorem dX11_merger_60 : decode cX11_merger 60 = .ok (.ireturn, 1) := by decide +kernel
theorem dX11_bestMerger_0 : decode cX11_bestMerger 0 = .ok (.aload_n 0, 1) := by decide +kernel
theorem dX11_bestMerger_1 : decode cX11_bestMerger 1 = .ok (.iconst 0, 1) := by decide +kernel
theorem dX11_bestMerger_2 : decode cX11_bestMerger 2 = .ok (.putfield 83, 3) := by decide +kernel
theorem dX11_bestMerger_5 : decode cX11_bestMerger 5 = .ok (.iload_n 1, 1) := by decide +kernel
theorem dX11_bestMerger_6 : decode cX11_bestMerger 6 = .ok (.iconst 0, 1) := by decide +kernel
theorem dX11_bestMerger_7 : decode cX11_bestMerger 7 = .ok (.bipush 100, 2) := by decide +kernel
theorem dX11_bestMerger_9 : decode cX11_bestMerger 9 = .ok (.invokestatic 238, 3) := by decide +kernel
theorem dX11_bestMerger_12 : decode cX11_bestMerger 12 = .ok (.ifCond .ge 15, 3) := by decide +kernel
theorem dX11_bestMerger_15 : decode cX11_bestMerger 15 = .ok (.aload_n 0, 1) := by decide +kernel
theorem dX11_bestMerger_16 : decode cX11_bestMerger 16 = .ok (.iload_n 1, 1) := by decide +kernel
theorem dX11_bestMerger_17 : decode cX11_bestMerger 17 = .ok (.iconst 0, 1) := by decide +kernel
theorem dX11_bestMerger_18 : decode cX11_bestMerger 18 = .ok (.bipush 100, 2) := by decide +kernel
theorem dX11_bestMerger_20 : decode cX11_bestMerger 20 = .ok (.invokestatic 238, 3) := by decide +kernel
theorem dX11_bestMerger_23 : decode cX11_bestMerger 23 = .ok (.invokevirtual 134, 3) := by decide +kernel
theorem dX11_bestMerger_26 : decode cX11_bestMerger 26 = .ok (.ireturn, 1) := by decide +kernel
theorem dX11_bestMerger_27 : decode cX11_bestMerger 27 = .ok (.bipush (-9), 2) := by decide +kernel
theorem dX11_bestMerger_29 : decode cX11_bestMerger 29 = .ok (.istore_n 2, 1) := by decide +kernel
theorem dX11_bestMerger_30 : decode cX11_bestMerger 30 = .ok (.ldc_w 271, 3) := by decide +kernel
theorem dX11_bestMerger_33 : decode cX11_bestMerger 33 = .ok (.istore_n 3, 1) := by decide +kernel
theorem dX11_bestMerger_34 : decode cX11_bestMerger 34 = .ok (.iconst 0, 1) := by decide +kernel
theorem dX11_bestMerger_35 : decode cX11_bestMerger 35 = .ok (.istore 4, 2) := by decide +kernel
theorem dX11_bestMerger_37 : decode cX11_bestMerger 37 = .ok (.iload 4, 2) := by decide +kernel
theorem dX11_bestMerger_39 : decode cX11_bestMerger 39 = .ok (.aload_n 0, 1) := by decide +kernel
theorem dX11_bestMerger_40 : decode cX11_bestMerger 40 = .ok (.getfield 86, 3) := by decide +kernel
theorem dX11_bestMerger_43 : decode cX11_bestMerger 43 = .ok (.if_icmp .ge 108, 3) := by decide +kernel
theorem dX11_bestMerger_46 : decode cX11_bestMerger 46 = .ok (.iload 4, 2) := by decide +kernel
theorem dX11_bestMerger_48 : decode cX11_bestMerger 48 = .ok (.iconst 1, 1) := by decide +kernel
theorem dX11_bestMerger_49 : decode cX11_bestMerger 49 = .ok (.iadd, 1) := by decide +kernel
theorem dX11_bestMerger_50 : decode cX11_bestMerger 50 = .ok (.istore 5, 2) := by decide +kernel
theorem dX11_bestMerger_52 : decode cX11_bestMerger 52 = .ok (.iload 5, 2) := by decide +kernel
theorem dX11_bestMerger_54 : decode cX11_bestMerger 54 = .ok (.aload_n 0, 1) := by decide +kernel
theorem dX11_bestMerger_55 : decode cX11_bestMerger 55 = .ok (.getfield 86, 3) := by decide +kernel
theorem dX11_bestMerger_58 : decode cX11_bestMerger 58 = .ok (.if_icmp .ge 87, 3) := by decide +kernel
theorem dX11_bestMerger_61 : decode cX11_bestMerger 61 = .ok (.aload_n 0, 1) := by decide +kernel
theorem dX11_bestMerger_62 : decode cX11_bestMerger 62 = .ok (.iload 4, 2) := by decide +kernel
theorem dX11_bestMerger_64 : decode cX11_bestMerger 64 = .ok (.iload 5, 2) := by decide +kernel
theorem dX11_bestMerger_66 : decode cX11_bestMerger 66 = .ok (.iload_n 1, 1) := by decide +kernel
theorem dX11_bestMerger_67 : decode cX11_bestMerger 67 = .ok (.invokevirtual 272, 3) := by decide +kernel
theorem dX11_bestMerger_70 : decode cX11_bestMerger 70 = .ok (.istore 6, 2) := by decide +kernel
theorem dX11_bestMerger_72 : decode cX11_bestMerger 72 = .ok (.iload 6, 2) := by decide +kernel
theorem dX11_bestMerger_74 : decode cX11_bestMerger 74 = .ok (.aload_n 0, 1) := by decide +kernel
theorem dX11_bestMerger_75 : decode cX11_bestMerger 75 = .ok (.iload 4, 2) := by decide +kernel
theorem dX11_bestMerger_77 : decode cX11_bestMerger 77 = .ok (.iload_n 1, 1) := by decide +kernel
theorem dX11_bestMerger_78 : decode cX11_bestMerger 78 = .ok (.invokevirtual 275, 3) := by decide +kernel
theorem dX11_bestMerger_81 : decode cX11_bestMerger 81 = .ok (.if_icmp .ge 25, 3) := by decide +kernel
theorem dX11_bestMerger_84 : decode cX11_bestMerger 84 = .ok (.iload 6, 2) := by decide +kernel
theorem dX11_bestMerger_86 : decode cX11_bestMerger 86 = .ok (.aload_n 0, 1) := by decide +kernel
theorem dX11_bestMerger_87 : decode cX11_bestMerger 87 = .ok (.iload 5, 2) := by decide +kernel
theorem dX11_bestMerger_89 : decode cX11_bestMerger 89 = .ok (.iload_n 1, 1) := by decide +kernel
theorem dX11_bestMerger_90 : decode cX11_bestMerger 90 = .ok (.invokevirtual 275, 3) := by decide +kernel
theorem dX11_bestMerger_93 : decode cX11_bestMerger 93 = .ok (.if_icmp .ge 13, 3) := by decide +kernel
theorem dX11_bestMerger_96 : decode cX11_bestMerger 96 = .ok (.iload 6, 2) := by decide +kernel
theorem dX11_bestMerger_98 : decode cX11_bestMerger 98 = .ok (.iload_n 3, 1) := by decide +kernel
theorem dX11_bestMerger_99 : decode cX11_bestMerger 99 = .ok (.if_icmp .ge 7, 3) := by decide +kernel
theorem dX11_bestMerger_102 : decode cX11_bestMerger 102 = .ok (.iconst 1, 1) := by decide +kernel
theorem dX11_bestMerger_103 : decode cX11_bestMerger 103 = .ok (.goto 4, 3) := by decide +kernel
theorem dX11_bestMerger_106 : decode cX11_bestMerger 106 = .ok (.iconst 0, 1) := by decide +kernel
theorem dX11_bestMerger_107 : decode cX11_bestMerger 107 = .ok (.istore 7, 2) := by decide +kernel
theorem dX11_bestMerger_109 : decode cX11_bestMerger 109 = .ok (.iload 7, 2) := by decide +kernel
theorem dX11_bestMerger_111 : decode cX11_bestMerger 111 = .ok (.ifCond .eq 14, 3) := by decide +kernel
theorem dX11_bestMerger_114 : decode cX11_bestMerger 114 = .ok (.bipush 10, 2) := by decide +kernel
theorem dX11_bestMerger_116 : decode cX11_bestMerger 116 = .ok (.iload 4, 2) := by decide +kernel
theorem dX11_bestMerger_118 : decode cX11_bestMerger 118 = .ok (.imul, 1) := by decide +kernel
theorem dX11_bestMerger_119 : decode cX11_bestMerger 119 = .ok (.iload 5, 2) := by decide +kernel
theorem dX11_bestMerger_121 : decode cX11_bestMerger 121 = .ok (.iadd, 1) := by decide +kernel
theorem dX11_bestMerger_122 : decode cX11_bestMerger 122 = .ok (.goto 4, 3) := by decide +kernel
theorem dX11_bestMerger_125 : decode cX11_bestMerger 125 = .ok (.iload_n 2, 1) := by decide +kernel
theorem dX11_bestMerger_126 : decode cX11_bestMerger 126 = .ok (.istore_n 2, 1) := by decide +kernel
theorem dX11_bestMerger_127 : decode cX11_bestMerger 127 = .ok (.iload 7, 2) := by decide +kernel
theorem dX11_bestMerger_129 : decode cX11_bestMerger 129 = .ok (.ifCond .eq 8, 3) := by decide +kernel
theorem dX11_bestMerger_132 : decode cX11_bestMerger 132 = .ok (.iload 6, 2) := by decide +kernel
theorem dX11_bestMerger_134 : decode cX11_bestMerger 134 = .ok (.goto 4, 3) := by decide +kernel
theorem dX11_bestMerger_137 : decode cX11_bestMerger 137 = .ok (.iload_n 3, 1) := by decide +kernel
theorem dX11_bestMerger_138 : decode cX11_bestMerger 138 = .ok (.istore_n 3, 1) := by decide +kernel
theorem dX11_bestMerger_139 : decode cX11_bestMerger 139 = .ok (.iinc 5 1, 3) := by decide +kernel
theorem dX11_bestMerger_142 : decode cX11_bestMerger 142 = .ok (.goto (-90), 3) := by decide +kernel
theorem dX11_bestMerger_145 : decode cX11_bestMerger 145 = .ok (.iinc 4 1, 3) := by decide +kernel
theorem dX11_bestMerger_148 : decode cX11_bestMerger 148 = .ok (.goto (-111), 3) := by decide +kernel
theorem dX11_bestMerger_151 : decode cX11_bestMerger 151 = .ok (.iload_n 2, 1) := by decide +kernel
theorem dX11_bestMerger_152 : decode cX11_bestMerger 152 = .ok (.ireturn, 1) := by decide +kernel
theorem dX11_divisor_0 : decode cX11_divisor 0 = .ok (.lload_n 0, 1) := by decide +kernel
theorem dX11_divisor_1 : decode cX11_divisor 1 = .ok (.lstore 4, 2) := by decide +kernel
theorem dX11_divisor_3 : decode cX11_divisor 3 = .ok (.lload_n 2, 1) := by decide +kernel
theorem dX11_divisor_4 : decode cX11_divisor 4 = .ok (.lstore 6, 2) := by decide +kernel
theorem dX11_divisor_6 : decode cX11_divisor 6 = .ok (.lload 6, 2) := by decide +kernel
theorem dX11_divisor_8 : decode cX11_divisor 8 = .ok (.lconst 0, 1) := by decide +kernel
theorem dX11_divisor_9 : decode cX11_divisor 9 = .ok (.lcmp, 1) := by decide +kernel
theorem dX11_divisor_10 : decode cX11_divisor 10 = .ok (.ifCond .eq 21, 3) := by decide +kernel
theorem dX11_divisor_13 : decode cX11_divisor 13 = .ok (.lload 4, 2) := by decide +kernel
theorem dX11_divisor_15 : decode cX11_divisor 15 = .ok (.lload 6, 2) := by decide +kernel
theorem dX11_divisor_17 : decode cX11_divisor 17 = .ok (.lrem, 1) := by decide +kernel
theorem dX11_divisor_18 : decode cX11_divisor 18 = .ok (.lstore 8, 2) := by decide +kernel
theorem dX11_divisor_20 : decode cX11_divisor 20 = .ok (.lload 6, 2) := by decide +kernel
theorem dX11_divisor_22 : decode cX11_divisor 22 = .ok (.lstore 4, 2) := by decide +kernel
theorem dX11_divisor_24 : decode cX11_divisor 24 = .ok (.lload 8, 2) := by decide +kernel
theorem dX11_divisor_26 : decode cX11_divisor 26 = .ok (.lstore 6, 2) := by decide +kernel
theorem dX11_divisor_28 : decode cX11_divisor 28 = .ok (.goto (-22), 3) := by decide +kernel
theorem dX11_divisor_31 : decode cX11_divisor 31 = .ok (.lload 4, 2) := by decide +kernel
theorem dX11_divisor_33 : decode cX11_divisor 33 = .ok (.lreturn, 1) := by decide +kernel
theorem dX11_partOf_0 : decode cX11_partOf 0 = .ok (.lload_n 0, 1) := by decide +kernel
theorem dX11_partOf_1 : decode cX11_partOf 1 = .ok (.lconst 0, 1) := by decide +kernel
theorem dX11_partOf_2 : decode cX11_partOf 2 = .ok (.lcmp, 1) := by decide +kernel
theorem dX11_partOf_3 : decode cX11_partOf 3 = .ok (.ifCond .ne 7, 3) := by decide +kernel
theorem dX11_partOf_6 : decode cX11_partOf 6 = .ok (.iload 4, 2) := by decide +kernel
theorem dX11_partOf_8 : decode cX11_partOf 8 = .ok (.i2l, 1) := by decide +kernel
theorem dX11_partOf_9 : decode cX11_partOf 9 = .ok (.lreturn, 1) := by decide +kernel
theorem dX11_partOf_10 : decode cX11_partOf 10 = .ok (.lload_n 0, 1) := by decide +kernel
theorem dX11_partOf_11 : decode cX11_partOf 11 = .ok (.lload_n 2, 1) := by decide +kernel
theorem dX11_partOf_12 : decode cX11_partOf 12 = .ok (.invokestatic 279, 3) := by decide +kernel
theorem dX11_partOf_15 : decode cX11_partOf 15 = .ok (.lstore 5, 2) := by decide +kernel
theorem dX11_partOf_17 : decode cX11_partOf 17 = .ok (.iload 4, 2) := by decide +kernel
theorem dX11_partOf_19 : decode cX11_partOf 19 = .ok (.ifCond .ne 10, 3) := by decide +kernel
theorem dX11_partOf_22 : decode cX11_partOf 22 = .ok (.lload_n 0, 1) := by decide +kernel
theorem dX11_partOf_23 : decode cX11_partOf 23 = .ok (.lload 5, 2) := by decide +kernel
theorem dX11_partOf_25 : decode cX11_partOf 25 = .ok (.ldiv, 1) := by decide +kernel
theorem dX11_partOf_26 : decode cX11_partOf 26 = .ok (.goto 7, 3) := by decide +kernel
theorem dX11_partOf_29 : decode cX11_partOf 29 = .ok (.lload_n 2, 1) := by decide +kernel
theorem dX11_partOf_30 : decode cX11_partOf 30 = .ok (.lload 5, 2) := by decide +kernel
theorem dX11_partOf_32 : decode cX11_partOf 32 = .ok (.ldiv, 1) := by decide +kernel
theorem dX11_partOf_33 : decode cX11_partOf 33 = .ok (.lreturn, 1) := by decide +kernel
theorem dX11_child_0 : decode cX11_child 0 = .ok (.aload_n 0, 1) := by decide +kernel
theorem dX11_child_1 : decode cX11_child 1 = .ok (.iconst 0, 1) := by decide +kernel
theorem dX11_child_2 : decode cX11_child 2 = .ok (.putfield 83, 3) := by decide +kernel
theorem dX11_child_5 : decode cX11_child 5 = .ok (.aload_n 0, 1) := by decide +kernel
theorem dX11_child_6 : decode cX11_child 6 = .ok (.iload_n 1, 1) := by decide +kernel
theorem dX11_child_7 : decode cX11_child 7 = .ok (.invokevirtual 188, 3) := by decide +kernel
theorem dX11_child_10 : decode cX11_child 10 = .ok (.ifCond .eq 12, 3) := by decide +kernel
theorem dX11_child_13 : decode cX11_child 13 = .ok (.iconst 0, 1) := by decide +kernel
theorem dX11_child_14 : decode cX11_child 14 = .ok (.iload_n 2, 1) := by decide +kernel
theorem dX11_child_15 : decode cX11_child 15 = .ok (.iconst 1, 1) := by decide +kernel
theorem dX11_child_16 : decode cX11_child 16 = .ok (.invokestatic 241, 3) := by decide +kernel
theorem dX11_child_19 : decode cX11_child 19 = .ok (.goto 4, 3) := by decide +kernel
theorem dX11_child_22 : decode cX11_child 22 = .ok (.iconst (-1), 1) := by decide +kernel
theorem dX11_child_23 : decode cX11_child 23 = .ok (.istore_n 3, 1) := by decide +kernel
theorem dX11_child_24 : decode cX11_child 24 = .ok (.iload_n 3, 1) := by decide +kernel
theorem dX11_child_25 : decode cX11_child 25 = .ok (.ifCond .ge 16, 3) := by decide +kernel
theorem dX11_child_28 : decode cX11_child 28 = .ok (.ldc2_w 283, 3) := by decide +kernel
theorem dX11_child_31 : decode cX11_child 31 = .ok (.aload_n 0, 1) := by decide +kernel
theorem dX11_child_32 : decode cX11_child 32 = .ok (.iload_n 3, 1) := by decide +kernel
theorem dX11_child_33 : decode cX11_child 33 = .ok (.invokevirtual 134, 3) := by decide +kernel
theorem dX11_child_36 : decode cX11_child 36 = .ok (.i2l, 1) := by decide +kernel
theorem dX11_child_37 : decode cX11_child 37 = .ok (.lsub, 1) := by decide +kernel
theorem dX11_child_38 : decode cX11_child 38 = .ok (.goto 21, 3) := by decide +kernel
theorem dX11_child_41 : decode cX11_child 41 = .ok (.aload_n 0, 1) := by decide +kernel
theorem dX11_child_42 : decode cX11_child 42 = .ok (.getfield 13, 3) := by decide +kernel
theorem dX11_child_45 : decode cX11_child 45 = .ok (.iload_n 1, 1) := by decide +kernel
theorem dX11_child_46 : decode cX11_child 46 = .ok (.iaload, 1) := by decide +kernel
theorem dX11_child_47 : decode cX11_child 47 = .ok (.i2l, 1) := by decide +kernel
theorem dX11_child_48 : decode cX11_child 48 = .ok (.aload_n 0, 1) := by decide +kernel
theorem dX11_child_49 : decode cX11_child 49 = .ok (.getfield 7, 3) := by decide +kernel
theorem dX11_child_52 : decode cX11_child 52 = .ok (.iload_n 1, 1) := by decide +kernel
theorem dX11_child_53 : decode cX11_child 53 = .ok (.iaload, 1) := by decide +kernel
theorem dX11_child_54 : decode cX11_child 54 = .ok (.i2l, 1) := by decide +kernel
theorem dX11_child_55 : decode cX11_child 55 = .ok (.iload_n 2, 1) := by decide +kernel
theorem dX11_child_56 : decode cX11_child 56 = .ok (.invokestatic 285, 3) := by decide +kernel
theorem dX11_child_59 : decode cX11_child 59 = .ok (.lreturn, 1) := by decide +kernel
theorem dX11_cheapest_0 : decode cX11_cheapest 0 = .ok (.aload_n 0, 1) := by decide +kernel
theorem dX11_cheapest_1 : decode cX11_cheapest 1 = .ok (.iconst 0, 1) := by decide +kernel
theorem dX11_cheapest_2 : decode cX11_cheapest 2 = .ok (.putfield 83, 3) := by decide +kernel
theorem dX11_cheapest_5 : decode cX11_cheapest 5 = .ok (.iload_n 1, 1) := by decide +kernel
theorem dX11_cheapest_6 : decode cX11_cheapest 6 = .ok (.iconst 0, 1) := by decide +kernel
theorem dX11_cheapest_7 : decode cX11_cheapest 7 = .ok (.bipush 100, 2) := by decide +kernel
theorem dX11_cheapest_9 : decode cX11_cheapest 9 = .ok (.invokestatic 238, 3) := by decide +kernel
theorem dX11_cheapest_12 : decode cX11_cheapest 12 = .ok (.iload_n 2, 1) := by decide +kernel
theorem dX11_cheapest_13 : decode cX11_cheapest 13 = .ok (.iconst 1, 1) := by decide +kernel
theorem dX11_cheapest_14 : decode cX11_cheapest 14 = .ok (.invokestatic 241, 3) := by decide +kernel
theorem dX11_cheapest_17 : decode cX11_cheapest 17 = .ok (.istore_n 3, 1) := by decide +kernel
theorem dX11_cheapest_18 : decode cX11_cheapest 18 = .ok (.iload_n 3, 1) := by decide +kernel
theorem dX11_cheapest_19 : decode cX11_cheapest 19 = .ok (.ifCond .ge 9, 3) := by decide +kernel
theorem dX11_cheapest_22 : decode cX11_cheapest 22 = .ok (.aload_n 0, 1) := by decide +kernel
theorem dX11_cheapest_23 : decode cX11_cheapest 23 = .ok (.iload_n 3, 1) := by decide +kernel
theorem dX11_cheapest_24 : decode cX11_cheapest 24 = .ok (.invokevirtual 134, 3) := by decide +kernel
theorem dX11_cheapest_27 : decode cX11_cheapest 27 = .ok (.ireturn, 1) := by decide +kernel
theorem dX11_cheapest_28 : decode cX11_cheapest 28 = .ok (.bipush (-9), 2) := by decide +kernel
theorem dX11_cheapest_30 : decode cX11_cheapest 30 = .ok (.istore 4, 2) := by decide +kernel
theorem dX11_cheapest_32 : decode cX11_cheapest 32 = .ok (.iconst 0, 1) := by decide +kernel
theorem dX11_cheapest_33 : decode cX11_cheapest 33 = .ok (.istore 5, 2) := by decide +kernel
theorem dX11_cheapest_35 : decode cX11_cheapest 35 = .ok (.iload 5, 2) := by decide +kernel
theorem dX11_cheapest_37 : decode cX11_cheapest 37 = .ok (.aload_n 0, 1) := by decide +kernel
theorem dX11_cheapest_38 : decode cX11_cheapest 38 = .ok (.getfield 86, 3) := by decide +kernel
theorem dX11_cheapest_41 : decode cX11_cheapest 41 = .ok (.if_icmp .ge 56, 3) := by decide +kernel
theorem dX11_cheapest_44 : decode cX11_cheapest 44 = .ok (.iload 4, 2) := by decide +kernel
theorem dX11_cheapest_46 : decode cX11_cheapest 46 = .ok (.ifCond .lt 36, 3) := by decide +kernel
theorem dX11_cheapest_49 : decode cX11_cheapest 49 = .ok (.aload_n 0, 1) := by decide +kernel
theorem dX11_cheapest_50 : decode cX11_cheapest 50 = .ok (.getfield 13, 3) := by decide +kernel
theorem dX11_cheapest_53 : decode cX11_cheapest 53 = .ok (.iload 5, 2) := by decide +kernel
theorem dX11_cheapest_55 : decode cX11_cheapest 55 = .ok (.iaload, 1) := by decide +kernel
theorem dX11_cheapest_56 : decode cX11_cheapest 56 = .ok (.aload_n 0, 1) := by decide +kernel
theorem dX11_cheapest_57 : decode cX11_cheapest 57 = .ok (.getfield 7, 3) := by decide +kernel
theorem dX11_cheapest_60 : decode cX11_cheapest 60 = .ok (.iload 4, 2) := by decide +kernel
theorem dX11_cheapest_62 : decode cX11_cheapest 62 = .ok (.iaload, 1) := by decide +kernel
theorem dX11_cheapest_63 : decode cX11_cheapest 63 = .ok (.imul, 1) := by decide +kernel
theorem dX11_cheapest_64 : decode cX11_cheapest 64 = .ok (.aload_n 0, 1) := by decide +kernel
theorem dX11_cheapest_65 : decode cX11_cheapest 65 = .ok (.getfield 13, 3) := by decide +kernel
theorem dX11_cheapest_68 : decode cX11_cheapest 68 = .ok (.iload 4, 2) := by decide +kernel
theorem dX11_cheapest_70 : decode cX11_cheapest 70 = .ok (.iaload, 1) := by decide +kernel
theorem dX11_cheapest_71 : decode cX11_cheapest 71 = .ok (.aload_n 0, 1) := by decide +kernel
theorem dX11_cheapest_72 : decode cX11_cheapest 72 = .ok (.getfield 7, 3) := by decide +kernel
theorem dX11_cheapest_75 : decode cX11_cheapest 75 = .ok (.iload 5, 2) := by decide +kernel
theorem dX11_cheapest_77 : decode cX11_cheapest 77 = .ok (.iaload, 1) := by decide +kernel
theorem dX11_cheapest_78 : decode cX11_cheapest 78 = .ok (.imul, 1) := by decide +kernel
theorem dX11_cheapest_79 : decode cX11_cheapest 79 = .ok (.if_icmp .ge 8, 3) := by decide +kernel
theorem dX11_cheapest_82 : decode cX11_cheapest 82 = .ok (.iload 5, 2) := by decide +kernel
theorem dX11_cheapest_84 : decode cX11_cheapest 84 = .ok (.goto 5, 3) := by decide +kernel
theorem dX11_cheapest_87 : decode cX11_cheapest 87 = .ok (.iload 4, 2) := by decide +kernel
theorem dX11_cheapest_89 : decode cX11_cheapest 89 = .ok (.istore 4, 2) := by decide +kernel
theorem dX11_cheapest_91 : decode cX11_cheapest 91 = .ok (.iinc 5 1, 3) := by decide +kernel
theorem dX11_cheapest_94 : decode cX11_cheapest 94 = .ok (.goto (-59), 3) := by decide +kernel
theorem dX11_cheapest_97 : decode cX11_cheapest 97 = .ok (.aload_n 0, 1) := by decide +kernel
theorem dX11_cheapest_98 : decode cX11_cheapest 98 = .ok (.invokevirtual 194, 3) := by decide +kernel
theorem dX11_cheapest_101 : decode cX11_cheapest 101 = .ok (.aload_n 0, 1) := by decide +kernel
theorem dX11_cheapest_102 : decode cX11_cheapest 102 = .ok (.iload_n 1, 1) := by decide +kernel
theorem dX11_cheapest_103 : decode cX11_cheapest 103 = .ok (.invokevirtual 185, 3) := by decide +kernel
theorem dX11_cheapest_106 : decode cX11_cheapest 106 = .ok (.aload_n 0, 1) := by decide +kernel
theorem dX11_cheapest_107 : decode cX11_cheapest 107 = .ok (.invokevirtual 200, 3) := by decide +kernel
theorem dX11_cheapest_110 : decode cX11_cheapest 110 = .ok (.iload_n 2, 1) := by decide +kernel
theorem dX11_cheapest_111 : decode cX11_cheapest 111 = .ok (.ifCond .ne 8, 3) := by decide +kernel
theorem dX11_cheapest_114 : decode cX11_cheapest 114 = .ok (.iload 4, 2) := by decide +kernel
theorem dX11_cheapest_116 : decode cX11_cheapest 116 = .ok (.goto 7, 3) := by decide +kernel
theorem dX11_cheapest_119 : decode cX11_cheapest 119 = .ok (.aload_n 0, 1) := by decide +kernel
theorem dX11_cheapest_120 : decode cX11_cheapest 120 = .ok (.getfield 128, 3) := by decide +kernel
theorem dX11_cheapest_123 : decode cX11_cheapest 123 = .ok (.ireturn, 1) := by decide +kernel
theorem dX11_burden_0 : decode cX11_burden 0 = .ok (.aload_n 0, 1) := by decide +kernel
theorem dX11_burden_1 : decode cX11_burden 1 = .ok (.invokevirtual 194, 3) := by decide +kernel
theorem dX11_burden_4 : decode cX11_burden 4 = .ok (.aload_n 0, 1) := by decide +kernel
theorem dX11_burden_5 : decode cX11_burden 5 = .ok (.getfield 16, 3) := by decide +kernel
theorem dX11_burden_8 : decode cX11_burden 8 = .ok (.iload_n 1, 1) := by decide +kernel
theorem dX11_burden_9 : decode cX11_burden 9 = .ok (.aload_n 0, 1) := by decide +kernel
theorem dX11_burden_10 : decode cX11_burden 10 = .ok (.getfield 16, 3) := by decide +kernel
theorem dX11_burden_13 : decode cX11_burden 13 = .ok (.iload_n 1, 1) := by decide +kernel
theorem dX11_burden_14 : decode cX11_burden 14 = .ok (.iaload, 1) := by decide +kernel
theorem dX11_burden_15 : decode cX11_burden 15 = .ok (.iload_n 2, 1) := by decide +kernel
theorem dX11_burden_16 : decode cX11_burden 16 = .ok (.iadd, 1) := by decide +kernel
theorem dX11_burden_17 : decode cX11_burden 17 = .ok (.iconst 0, 1) := by decide +kernel
theorem dX11_burden_18 : decode cX11_burden 18 = .ok (.bipush 9, 2) := by decide +kernel
theorem dX11_burden_20 : decode cX11_burden 20 = .ok (.invokestatic 97, 3) := by decide +kernel
theorem dX11_burden_23 : decode cX11_burden 23 = .ok (.iastore, 1) := by decide +kernel
theorem dX11_burden_24 : decode cX11_burden 24 = .ok (.aload_n 0, 1) := by decide +kernel
theorem dX11_burden_25 : decode cX11_burden 25 = .ok (.iload_n 3, 1) := by decide +kernel
theorem dX11_burden_26 : decode cX11_burden 26 = .ok (.invokevirtual 185, 3) := by decide +kernel
theorem dX11_burden_29 : decode cX11_burden 29 = .ok (.aload_n 0, 1) := by decide +kernel
theorem dX11_burden_30 : decode cX11_burden 30 = .ok (.getfield 47, 3) := by decide +kernel
theorem dX11_burden_33 : decode cX11_burden 33 = .ok (.iload_n 1, 1) := by decide +kernel
theorem dX11_burden_34 : decode cX11_burden 34 = .ok (.iaload, 1) := by decide +kernel
theorem dX11_burden_35 : decode cX11_burden 35 = .ok (.aload_n 0, 1) := by decide +kernel
theorem dX11_burden_36 : decode cX11_burden 36 = .ok (.getfield 13, 3) := by decide +kernel
theorem dX11_burden_39 : decode cX11_burden 39 = .ok (.iload_n 1, 1) := by decide +kernel
theorem dX11_burden_40 : decode cX11_burden 40 = .ok (.iaload, 1) := by decide +kernel
theorem dX11_burden_41 : decode cX11_burden 41 = .ok (.iadd, 1) := by decide +kernel
theorem dX11_burden_42 : decode cX11_burden 42 = .ok (.istore 4, 2) := by decide +kernel
theorem dX11_burden_44 : decode cX11_burden 44 = .ok (.aload_n 0, 1) := by decide +kernel
theorem dX11_burden_45 : decode cX11_burden 45 = .ok (.invokevirtual 200, 3) := by decide +kernel
theorem dX11_burden_48 : decode cX11_burden 48 = .ok (.iload 4, 2) := by decide +kernel
theorem dX11_burden_50 : decode cX11_burden 50 = .ok (.ireturn, 1) := by decide +kernel
theorem dX11_treaty_0 : decode cX11_treaty 0 = .ok (.aload_n 0, 1) := by decide +kernel
theorem dX11_treaty_1 : decode cX11_treaty 1 = .ok (.iconst 0, 1) := by decide +kernel
theorem dX11_treaty_2 : decode cX11_treaty 2 = .ok (.putfield 83, 3) := by decide +kernel
theorem dX11_treaty_5 : decode cX11_treaty 5 = .ok (.aload_n 0, 1) := by decide +kernel
theorem dX11_treaty_6 : decode cX11_treaty 6 = .ok (.iload_n 1, 1) := by decide +kernel
theorem dX11_treaty_7 : decode cX11_treaty 7 = .ok (.invokevirtual 188, 3) := by decide +kernel
theorem dX11_treaty_10 : decode cX11_treaty 10 = .ok (.ifCond .eq 26, 3) := by decide +kernel
theorem dX11_treaty_13 : decode cX11_treaty 13 = .ok (.aload_n 0, 1) := by decide +kernel
theorem dX11_treaty_14 : decode cX11_treaty 14 = .ok (.iload_n 2, 1) := by decide +kernel
theorem dX11_treaty_15 : decode cX11_treaty 15 = .ok (.invokevirtual 188, 3) := by decide +kernel
theorem dX11_treaty_18 : decode cX11_treaty 18 = .ok (.ifCond .eq 18, 3) := by decide +kernel
theorem dX11_treaty_21 : decode cX11_treaty 21 = .ok (.iload_n 1, 1) := by decide +kernel
theorem dX11_treaty_22 : decode cX11_treaty 22 = .ok (.iload_n 2, 1) := by decide +kernel
theorem dX11_treaty_23 : decode cX11_treaty 23 = .ok (.if_icmp .eq 13, 3) := by decide +kernel
theorem dX11_treaty_26 : decode cX11_treaty 26 = .ok (.iload_n 3, 1) := by decide +kernel
theorem dX11_treaty_27 : decode cX11_treaty 27 = .ok (.iconst 0, 1) := by decide +kernel
theorem dX11_treaty_28 : decode cX11_treaty 28 = .ok (.bipush 100, 2) := by decide +kernel
theorem dX11_treaty_30 : decode cX11_treaty 30 = .ok (.invokestatic 238, 3) := by decide +kernel
theorem dX11_treaty_33 : decode cX11_treaty 33 = .ok (.goto 4, 3) := by decide +kernel
theorem dX11_treaty_36 : decode cX11_treaty 36 = .ok (.iconst (-1), 1) := by decide +kernel
theorem dX11_treaty_37 : decode cX11_treaty 37 = .ok (.istore 4, 2) := by decide +kernel
theorem dX11_treaty_39 : decode cX11_treaty 39 = .ok (.iload 4, 2) := by decide +kernel
theorem dX11_treaty_41 : decode cX11_treaty 41 = .ok (.ifCond .ge 10, 3) := by decide +kernel
theorem dX11_treaty_44 : decode cX11_treaty 44 = .ok (.aload_n 0, 1) := by decide +kernel
theorem dX11_treaty_45 : decode cX11_treaty 45 = .ok (.iload 4, 2) := by decide +kernel
theorem dX11_treaty_47 : decode cX11_treaty 47 = .ok (.invokevirtual 134, 3) := by decide +kernel
theorem dX11_treaty_50 : decode cX11_treaty 50 = .ok (.ireturn, 1) := by decide +kernel
theorem dX11_treaty_51 : decode cX11_treaty 51 = .ok (.aload_n 0, 1) := by decide +kernel
theorem dX11_treaty_52 : decode cX11_treaty 52 = .ok (.iload_n 1, 1) := by decide +kernel
theorem dX11_treaty_53 : decode cX11_treaty 53 = .ok (.iconst 1, 1) := by decide +kernel
theorem dX11_treaty_54 : decode cX11_treaty 54 = .ok (.iload_n 3, 1) := by decide +kernel
theorem dX11_treaty_55 : decode cX11_treaty 55 = .ok (.invokevirtual 289, 3) := by decide +kernel
theorem dX11_treaty_58 : decode cX11_treaty 58 = .ok (.aload_n 0, 1) := by decide +kernel
theorem dX11_treaty_59 : decode cX11_treaty 59 = .ok (.iload_n 1, 1) := by decide +kernel
theorem dX11_treaty_60 : decode cX11_treaty 60 = .ok (.iconst 0, 1) := by decide +kernel
theorem dX11_treaty_61 : decode cX11_treaty 61 = .ok (.iload_n 3, 1) := by decide +kernel
theorem dX11_treaty_62 : decode cX11_treaty 62 = .ok (.invokevirtual 289, 3) := by decide +kernel
theorem dX11_treaty_65 : decode cX11_treaty 65 = .ok (.if_icmp .ge 7, 3) := by decide +kernel
theorem dX11_treaty_68 : decode cX11_treaty 68 = .ok (.iconst 1, 1) := by decide +kernel
theorem dX11_treaty_69 : decode cX11_treaty 69 = .ok (.goto 4, 3) := by decide +kernel
theorem dX11_treaty_72 : decode cX11_treaty 72 = .ok (.iconst 0, 1) := by decide +kernel
theorem dX11_treaty_73 : decode cX11_treaty 73 = .ok (.istore 5, 2) := by decide +kernel
theorem dX11_treaty_75 : decode cX11_treaty 75 = .ok (.aload_n 0, 1) := by decide +kernel
theorem dX11_treaty_76 : decode cX11_treaty 76 = .ok (.iload_n 2, 1) := by decide +kernel
theorem dX11_treaty_77 : decode cX11_treaty 77 = .ok (.iconst 1, 1) := by decide +kernel
theorem dX11_treaty_78 : decode cX11_treaty 78 = .ok (.iload_n 3, 1) := by decide +kernel
theorem dX11_treaty_79 : decode cX11_treaty 79 = .ok (.invokevirtual 289, 3) := by decide +kernel
theorem dX11_treaty_82 : decode cX11_treaty 82 = .ok (.aload_n 0, 1) := by decide +kernel
theorem dX11_treaty_83 : decode cX11_treaty 83 = .ok (.iload_n 2, 1) := by decide +kernel
theorem dX11_treaty_84 : decode cX11_treaty 84 = .ok (.iconst 0, 1) := by decide +kernel
theorem dX11_treaty_85 : decode cX11_treaty 85 = .ok (.iload_n 3, 1) := by decide +kernel
theorem dX11_treaty_86 : decode cX11_treaty 86 = .ok (.invokevirtual 289, 3) := by decide +kernel
theorem dX11_treaty_89 : decode cX11_treaty 89 = .ok (.if_icmp .ge 7, 3) := by decide +kernel
theorem dX11_treaty_92 : decode cX11_treaty 92 = .ok (.iconst 1, 1) := by decide +kernel
theorem dX11_treaty_93 : decode cX11_treaty 93 = .ok (.goto 4, 3) := by decide +kernel
theorem dX11_treaty_96 : decode cX11_treaty 96 = .ok (.iconst 0, 1) := by decide +kernel
theorem dX11_treaty_97 : decode cX11_treaty 97 = .ok (.istore 6, 2) := by decide +kernel
theorem dX11_treaty_99 : decode cX11_treaty 99 = .ok (.bipush 10, 2) := by decide +kernel
theorem dX11_treaty_101 : decode cX11_treaty 101 = .ok (.iload 5, 2) := by decide +kernel
theorem dX11_treaty_103 : decode cX11_treaty 103 = .ok (.imul, 1) := by decide +kernel
theorem dX11_treaty_104 : decode cX11_treaty 104 = .ok (.iload 6, 2) := by decide +kernel
theorem dX11_treaty_106 : decode cX11_treaty 106 = .ok (.iadd, 1) := by decide +kernel
theorem dX11_treaty_107 : decode cX11_treaty 107 = .ok (.ireturn, 1) := by decide +kernel
theorem dX11_signature_0 : decode cX11_signature 0 = .ok (.aload_n 0, 1) := by decide +kernel
theorem dX11_signature_1 : decode cX11_signature 1 = .ok (.iconst 0, 1) := by decide +kernel
theorem dX11_signature_2 : decode cX11_signature 2 = .ok (.putfield 83, 3) := by decide +kernel
theorem dX11_signature_5 : decode cX11_signature 5 = .ok (.aload_n 0, 1) := by decide +kernel
theorem dX11_signature_6 : decode cX11_signature 6 = .ok (.iload_n 1, 1) := by decide +kernel
theorem dX11_signature_7 : decode cX11_signature 7 = .ok (.invokevirtual 177, 3) := by decide +kernel
theorem dX11_signature_10 : decode cX11_signature 10 = .ok (.ifCond .eq 12, 3) := by decide +kernel
theorem dX11_signature_13 : decode cX11_signature 13 = .ok (.iconst 0, 1) := by decide +kernel
theorem dX11_signature_14 : decode cX11_signature 14 = .ok (.iload_n 2, 1) := by decide +kernel
theorem dX11_signature_15 : decode cX11_signature 15 = .ok (.iconst 1, 1) := by decide +kernel
theorem dX11_signature_16 : decode cX11_signature 16 = .ok (.invokestatic 241, 3) := by decide +kernel
theorem dX11_signature_19 : decode cX11_signature 19 = .ok (.goto 4, 3) := by decide +kernel
theorem dX11_signature_22 : decode cX11_signature 22 = .ok (.iconst (-1), 1) := by decide +kernel
theorem dX11_signature_23 : decode cX11_signature 23 = .ok (.istore_n 3, 1) := by decide +kernel
theorem dX11_signature_24 : decode cX11_signature 24 = .ok (.iload_n 3, 1) := by decide +kernel
theorem dX11_signature_25 : decode cX11_signature 25 = .ok (.ifCond .ge 9, 3) := by decide +kernel
theorem dX11_signature_28 : decode cX11_signature 28 = .ok (.aload_n 0, 1) := by decide +kernel
theorem dX11_signature_29 : decode cX11_signature 29 = .ok (.iload_n 3, 1) := by decide +kernel
theorem dX11_signature_30 : decode cX11_signature 30 = .ok (.invokevirtual 134, 3) := by decide +kernel
theorem dX11_signature_33 : decode cX11_signature 33 = .ok (.ireturn, 1) := by decide +kernel
theorem dX11_signature_34 : decode cX11_signature 34 = .ok (.aload_n 0, 1) := by decide +kernel
theorem dX11_signature_35 : decode cX11_signature 35 = .ok (.invokevirtual 292, 3) := by decide +kernel
theorem dX11_signature_38 : decode cX11_signature 38 = .ok (.istore 4, 2) := by decide +kernel
theorem dX11_signature_40 : decode cX11_signature 40 = .ok (.iconst 0, 1) := by decide +kernel
theorem dX11_signature_41 : decode cX11_signature 41 = .ok (.istore 5, 2) := by decide +kernel
theorem dX11_signature_43 : decode cX11_signature 43 = .ok (.aload_n 0, 1) := by decide +kernel
theorem dX11_signature_44 : decode cX11_signature 44 = .ok (.iload_n 1, 1) := by decide +kernel
theorem dX11_signature_45 : decode cX11_signature 45 = .ok (.invokevirtual 116, 3) := by decide +kernel
theorem dX11_signature_48 : decode cX11_signature 48 = .ok (.iconst 0, 1) := by decide +kernel
theorem dX11_signature_49 : decode cX11_signature 49 = .ok (.istore 6, 2) := by decide +kernel
theorem dX11_signature_51 : decode cX11_signature 51 = .ok (.iload 6, 2) := by decide +kernel
theorem dX11_signature_53 : decode cX11_signature 53 = .ok (.aload_n 0, 1) := by decide +kernel
theorem dX11_signature_54 : decode cX11_signature 54 = .ok (.getfield 86, 3) := by decide +kernel
theorem dX11_signature_57 : decode cX11_signature 57 = .ok (.if_icmp .ge 79, 3) := by decide +kernel
theorem dX11_signature_60 : decode cX11_signature 60 = .ok (.aload_n 0, 1) := by decide +kernel
theorem dX11_signature_61 : decode cX11_signature 61 = .ok (.getfield 41, 3) := by decide +kernel
theorem dX11_signature_64 : decode cX11_signature 64 = .ok (.iload 6, 2) := by decide +kernel
theorem dX11_signature_66 : decode cX11_signature 66 = .ok (.iaload, 1) := by decide +kernel
theorem dX11_signature_67 : decode cX11_signature 67 = .ok (.aload_n 0, 1) := by decide +kernel
theorem dX11_signature_68 : decode cX11_signature 68 = .ok (.getfield 7, 3) := by decide +kernel
theorem dX11_signature_71 : decode cX11_signature 71 = .ok (.iload 6, 2) := by decide +kernel
theorem dX11_signature_73 : decode cX11_signature 73 = .ok (.iaload, 1) := by decide +kernel
theorem dX11_signature_74 : decode cX11_signature 74 = .ok (.iadd, 1) := by decide +kernel
theorem dX11_signature_75 : decode cX11_signature 75 = .ok (.iconst 1, 1) := by decide +kernel
theorem dX11_signature_76 : decode cX11_signature 76 = .ok (.isub, 1) := by decide +kernel
theorem dX11_signature_77 : decode cX11_signature 77 = .ok (.aload_n 0, 1) := by decide +kernel
theorem dX11_signature_78 : decode cX11_signature 78 = .ok (.getfield 7, 3) := by decide +kernel
theorem dX11_signature_81 : decode cX11_signature 81 = .ok (.iload 6, 2) := by decide +kernel
theorem dX11_signature_83 : decode cX11_signature 83 = .ok (.iaload, 1) := by decide +kernel
theorem dX11_signature_84 : decode cX11_signature 84 = .ok (.idiv, 1) := by decide +kernel
theorem dX11_signature_85 : decode cX11_signature 85 = .ok (.aload_n 0, 1) := by decide +kernel
theorem dX11_signature_86 : decode cX11_signature 86 = .ok (.getfield 32, 3) := by decide +kernel
theorem dX11_signature_89 : decode cX11_signature 89 = .ok (.iload_n 1, 1) := by decide +kernel
theorem dX11_signature_90 : decode cX11_signature 90 = .ok (.iaload, 1) := by decide +kernel
theorem dX11_signature_91 : decode cX11_signature 91 = .ok (.iload 4, 2) := by decide +kernel
theorem dX11_signature_93 : decode cX11_signature 93 = .ok (.iadd, 1) := by decide +kernel
theorem dX11_signature_94 : decode cX11_signature 94 = .ok (.iconst 1, 1) := by decide +kernel
theorem dX11_signature_95 : decode cX11_signature 95 = .ok (.isub, 1) := by decide +kernel
theorem dX11_signature_96 : decode cX11_signature 96 = .ok (.iload 4, 2) := by decide +kernel
theorem dX11_signature_98 : decode cX11_signature 98 = .ok (.idiv, 1) := by decide +kernel
theorem dX11_signature_99 : decode cX11_signature 99 = .ok (.if_icmp .gt 7, 3) := by decide +kernel
theorem dX11_signature_102 : decode cX11_signature 102 = .ok (.iconst 1, 1) := by decide +kernel
theorem dX11_signature_103 : decode cX11_signature 103 = .ok (.goto 4, 3) := by decide +kernel
theorem dX11_signature_106 : decode cX11_signature 106 = .ok (.iconst 0, 1) := by decide +kernel
theorem dX11_signature_107 : decode cX11_signature 107 = .ok (.istore 7, 2) := by decide +kernel
theorem dX11_signature_109 : decode cX11_signature 109 = .ok (.iload 5, 2) := by decide +kernel
theorem dX11_signature_111 : decode cX11_signature 111 = .ok (.iload 7, 2) := by decide +kernel
theorem dX11_signature_113 : decode cX11_signature 113 = .ok (.ifCond .eq 13, 3) := by decide +kernel
theorem dX11_signature_116 : decode cX11_signature 116 = .ok (.aload_n 0, 1) := by decide +kernel
theorem dX11_signature_117 : decode cX11_signature 117 = .ok (.getfield 7, 3) := by decide +kernel
theorem dX11_signature_120 : decode cX11_signature 120 = .ok (.iload 6, 2) := by decide +kernel
theorem dX11_signature_122 : decode cX11_signature 122 = .ok (.iaload, 1) := by decide +kernel
theorem dX11_signature_123 : decode cX11_signature 123 = .ok (.goto 4, 3) := by decide +kernel
theorem dX11_signature_126 : decode cX11_signature 126 = .ok (.iconst 0, 1) := by decide +kernel
theorem dX11_signature_127 : decode cX11_signature 127 = .ok (.iadd, 1) := by decide +kernel
theorem dX11_signature_128 : decode cX11_signature 128 = .ok (.istore 5, 2) := by decide +kernel
theorem dX11_signature_130 : decode cX11_signature 130 = .ok (.iinc 6 1, 3) := by decide +kernel
theorem dX11_signature_133 : decode cX11_signature 133 = .ok (.goto (-82), 3) := by decide +kernel
theorem dX11_signature_136 : decode cX11_signature 136 = .ok (.iload_n 2, 1) := by decide +kernel
theorem dX11_signature_137 : decode cX11_signature 137 = .ok (.ifCond .ne 8, 3) := by decide +kernel
theorem dX11_signature_140 : decode cX11_signature 140 = .ok (.iload 5, 2) := by decide +kernel
theorem dX11_signature_142 : decode cX11_signature 142 = .ok (.goto 17, 3) := by decide +kernel
theorem dX11_signature_145 : decode cX11_signature 145 = .ok (.iconst 2, 1) := by decide +kernel
theorem dX11_signature_146 : decode cX11_signature 146 = .ok (.iload 5, 2) := by decide +kernel
theorem dX11_signature_148 : decode cX11_signature 148 = .ok (.imul, 1) := by decide +kernel
theorem dX11_signature_149 : decode cX11_signature 149 = .ok (.iload 4, 2) := by decide +kernel
theorem dX11_signature_151 : decode cX11_signature 151 = .ok (.if_icmp .le 7, 3) := by decide +kernel
theorem dX11_signature_154 : decode cX11_signature 154 = .ok (.iconst 1, 1) := by decide +kernel
theorem dX11_signature_155 : decode cX11_signature 155 = .ok (.goto 4, 3) := by decide +kernel
theorem dX11_signature_158 : decode cX11_signature 158 = .ok (.iconst 0, 1) := by decide +kernel
theorem dX11_signature_159 : decode cX11_signature 159 = .ok (.ireturn, 1) := by decide +kernel
theorem dX11_whoBuilt_0 : decode cX11_whoBuilt 0 = .ok (.aload_n 0, 1) := by decide +kernel
theorem dX11_whoBuilt_1 : decode cX11_whoBuilt 1 = .ok (.iconst 0, 1) := by decide +kernel
theorem dX11_whoBuilt_2 : decode cX11_whoBuilt 2 = .ok (.putfield 83, 3) := by decide +kernel
theorem dX11_whoBuilt_5 : decode cX11_whoBuilt 5 = .ok (.iload_n 1, 1) := by decide +kernel
theorem dX11_whoBuilt_6 : decode cX11_whoBuilt 6 = .ok (.i2l, 1) := by decide +kernel
theorem dX11_whoBuilt_7 : decode cX11_whoBuilt 7 = .ok (.lconst 0, 1) := by decide +kernel
theorem dX11_whoBuilt_8 : decode cX11_whoBuilt 8 = .ok (.lconst 1, 1) := by decide +kernel
theorem dX11_whoBuilt_9 : decode cX11_whoBuilt 9 = .ok (.invokestatic 89, 3) := by decide +kernel
theorem dX11_whoBuilt_12 : decode cX11_whoBuilt 12 = .ok (.ifCond .ne 8, 3) := by decide +kernel
theorem dX11_whoBuilt_15 : decode cX11_whoBuilt 15 = .ok (.bipush (-2), 2) := by decide +kernel
theorem dX11_whoBuilt_17 : decode cX11_whoBuilt 17 = .ok (.goto 20, 3) := by decide +kernel
theorem dX11_whoBuilt_20 : decode cX11_whoBuilt 20 = .ok (.aload_n 0, 1) := by decide +kernel
theorem dX11_whoBuilt_21 : decode cX11_whoBuilt 21 = .ok (.getfield 295, 3) := by decide +kernel
theorem dX11_whoBuilt_24 : decode cX11_whoBuilt 24 = .ok (.aload_n 0, 1) := by decide +kernel
theorem dX11_whoBuilt_25 : decode cX11_whoBuilt 25 = .ok (.getfield 86, 3) := by decide +kernel
theorem dX11_whoBuilt_28 : decode cX11_whoBuilt 28 = .ok (.if_icmp .eq 8, 3) := by decide +kernel
theorem dX11_whoBuilt_31 : decode cX11_whoBuilt 31 = .ok (.bipush (-3), 2) := by decide +kernel
theorem dX11_whoBuilt_33 : decode cX11_whoBuilt 33 = .ok (.goto 4, 3) := by decide +kernel
theorem dX11_whoBuilt_36 : decode cX11_whoBuilt 36 = .ok (.iconst 0, 1) := by decide +kernel
theorem dX11_whoBuilt_37 : decode cX11_whoBuilt 37 = .ok (.istore_n 2, 1) := by decide +kernel
theorem dX11_whoBuilt_38 : decode cX11_whoBuilt 38 = .ok (.iload_n 2, 1) := by decide +kernel
theorem dX11_whoBuilt_39 : decode cX11_whoBuilt 39 = .ok (.ifCond .ge 9, 3) := by decide +kernel
theorem dX11_whoBuilt_42 : decode cX11_whoBuilt 42 = .ok (.aload_n 0, 1) := by decide +kernel
theorem dX11_whoBuilt_43 : decode cX11_whoBuilt 43 = .ok (.iload_n 2, 1) := by decide +kernel
theorem dX11_whoBuilt_44 : decode cX11_whoBuilt 44 = .ok (.invokevirtual 134, 3) := by decide +kernel
theorem dX11_whoBuilt_47 : decode cX11_whoBuilt 47 = .ok (.ireturn, 1) := by decide +kernel
theorem dX11_whoBuilt_48 : decode cX11_whoBuilt 48 = .ok (.iconst 0, 1) := by decide +kernel
theorem dX11_whoBuilt_49 : decode cX11_whoBuilt 49 = .ok (.istore_n 3, 1) := by decide +kernel
theorem dX11_whoBuilt_50 : decode cX11_whoBuilt 50 = .ok (.bipush (-9), 2) := by decide +kernel
theorem dX11_whoBuilt_52 : decode cX11_whoBuilt 52 = .ok (.istore 4, 2) := by decide +kernel
theorem dX11_whoBuilt_54 : decode cX11_whoBuilt 54 = .ok (.aload_n 0, 1) := by decide +kernel
theorem dX11_whoBuilt_55 : decode cX11_whoBuilt 55 = .ok (.invokevirtual 194, 3) := by decide +kernel
theorem dX11_whoBuilt_58 : decode cX11_whoBuilt 58 = .ok (.iconst 0, 1) := by decide +kernel
theorem dX11_whoBuilt_59 : decode cX11_whoBuilt 59 = .ok (.istore 5, 2) := by decide +kernel
theorem dX11_whoBuilt_61 : decode cX11_whoBuilt 61 = .ok (.iload 5, 2) := by decide +kernel
theorem dX11_whoBuilt_63 : decode cX11_whoBuilt 63 = .ok (.iconst 1, 1) := by decide +kernel
theorem dX11_whoBuilt_64 : decode cX11_whoBuilt 64 = .ok (.aload_n 0, 1) := by decide +kernel
theorem dX11_whoBuilt_65 : decode cX11_whoBuilt 65 = .ok (.getfield 93, 3) := by decide +kernel
theorem dX11_whoBuilt_68 : decode cX11_whoBuilt 68 = .ok (.ishl, 1) := by decide +kernel
theorem dX11_whoBuilt_69 : decode cX11_whoBuilt 69 = .ok (.if_icmp .ge 133, 3) := by decide +kernel
theorem dX11_whoBuilt_72 : decode cX11_whoBuilt 72 = .ok (.iconst 0, 1) := by decide +kernel
theorem dX11_whoBuilt_73 : decode cX11_whoBuilt 73 = .ok (.istore 6, 2) := by decide +kernel
theorem dX11_whoBuilt_75 : decode cX11_whoBuilt 75 = .ok (.iload 6, 2) := by decide +kernel
theorem dX11_whoBuilt_77 : decode cX11_whoBuilt 77 = .ok (.aload_n 0, 1) := by decide +kernel
theorem dX11_whoBuilt_78 : decode cX11_whoBuilt 78 = .ok (.getfield 86, 3) := by decide +kernel
theorem dX11_whoBuilt_81 : decode cX11_whoBuilt 81 = .ok (.if_icmp .ge 17, 3) := by decide +kernel
theorem dX11_whoBuilt_84 : decode cX11_whoBuilt 84 = .ok (.aload_n 0, 1) := by decide +kernel
theorem dX11_whoBuilt_85 : decode cX11_whoBuilt 85 = .ok (.getfield 13, 3) := by decide +kernel
theorem dX11_whoBuilt_88 : decode cX11_whoBuilt 88 = .ok (.iload 6, 2) := by decide +kernel
theorem dX11_whoBuilt_90 : decode cX11_whoBuilt 90 = .ok (.iconst 0, 1) := by decide +kernel
theorem dX11_whoBuilt_91 : decode cX11_whoBuilt 91 = .ok (.iastore, 1) := by decide +kernel
theorem dX11_whoBuilt_92 : decode cX11_whoBuilt 92 = .ok (.iinc 6 1, 3) := by decide +kernel
theorem dX11_whoBuilt_95 : decode cX11_whoBuilt 95 = .ok (.goto (-20), 3) := by decide +kernel
theorem dX11_whoBuilt_98 : decode cX11_whoBuilt 98 = .ok (.aload_n 0, 1) := by decide +kernel
theorem dX11_whoBuilt_99 : decode cX11_whoBuilt 99 = .ok (.iload 5, 2) := by decide +kernel
theorem dX11_whoBuilt_101 : decode cX11_whoBuilt 101 = .ok (.invokevirtual 265, 3) := by decide +kernel
theorem dX11_whoBuilt_104 : decode cX11_whoBuilt 104 = .ok (.iconst 1, 1) := by decide +kernel
theorem dX11_whoBuilt_105 : decode cX11_whoBuilt 105 = .ok (.istore 6, 2) := by decide +kernel
theorem dX11_whoBuilt_107 : decode cX11_whoBuilt 107 = .ok (.iconst 0, 1) := by decide +kernel
theorem dX11_whoBuilt_108 : decode cX11_whoBuilt 108 = .ok (.istore 7, 2) := by decide +kernel
theorem dX11_whoBuilt_110 : decode cX11_whoBuilt 110 = .ok (.iload 7, 2) := by decide +kernel
theorem dX11_whoBuilt_112 : decode cX11_whoBuilt 112 = .ok (.aload_n 0, 1) := by decide +kernel
theorem dX11_whoBuilt_113 : decode cX11_whoBuilt 113 = .ok (.getfield 86, 3) := by decide +kernel
theorem dX11_whoBuilt_116 : decode cX11_whoBuilt 116 = .ok (.if_icmp .ge 44, 3) := by decide +kernel
theorem dX11_whoBuilt_119 : decode cX11_whoBuilt 119 = .ok (.iload 6, 2) := by decide +kernel
theorem dX11_whoBuilt_121 : decode cX11_whoBuilt 121 = .ok (.ifCond .eq 30, 3) := by decide +kernel
theorem dX11_whoBuilt_124 : decode cX11_whoBuilt 124 = .ok (.aload_n 0, 1) := by decide +kernel
theorem dX11_whoBuilt_125 : decode cX11_whoBuilt 125 = .ok (.getfield 13, 3) := by decide +kernel
theorem dX11_whoBuilt_128 : decode cX11_whoBuilt 128 = .ok (.iload 7, 2) := by decide +kernel
theorem dX11_whoBuilt_130 : decode cX11_whoBuilt 130 = .ok (.iaload, 1) := by decide +kernel
theorem dX11_whoBuilt_131 : decode cX11_whoBuilt 131 = .ok (.iconst 0, 1) := by decide +kernel
theorem dX11_whoBuilt_132 : decode cX11_whoBuilt 132 = .ok (.bipush 99, 2) := by decide +kernel
theorem dX11_whoBuilt_134 : decode cX11_whoBuilt 134 = .ok (.invokestatic 97, 3) := by decide +kernel
theorem dX11_whoBuilt_137 : decode cX11_whoBuilt 137 = .ok (.aload_n 0, 1) := by decide +kernel
theorem dX11_whoBuilt_138 : decode cX11_whoBuilt 138 = .ok (.getfield 74, 3) := by decide +kernel
theorem dX11_whoBuilt_141 : decode cX11_whoBuilt 141 = .ok (.iload 7, 2) := by decide +kernel
theorem dX11_whoBuilt_143 : decode cX11_whoBuilt 143 = .ok (.iaload, 1) := by decide +kernel
theorem dX11_whoBuilt_144 : decode cX11_whoBuilt 144 = .ok (.if_icmp .ne 7, 3) := by decide +kernel
theorem dX11_whoBuilt_147 : decode cX11_whoBuilt 147 = .ok (.iconst 1, 1) := by decide +kernel
theorem dX11_whoBuilt_148 : decode cX11_whoBuilt 148 = .ok (.goto 4, 3) := by decide +kernel
theorem dX11_whoBuilt_151 : decode cX11_whoBuilt 151 = .ok (.iconst 0, 1) := by decide +kernel
theorem dX11_whoBuilt_152 : decode cX11_whoBuilt 152 = .ok (.istore 6, 2) := by decide +kernel
theorem dX11_whoBuilt_154 : decode cX11_whoBuilt 154 = .ok (.iinc 7 1, 3) := by decide +kernel
theorem dX11_whoBuilt_157 : decode cX11_whoBuilt 157 = .ok (.goto (-47), 3) := by decide +kernel
theorem dX11_whoBuilt_160 : decode cX11_whoBuilt 160 = .ok (.aload_n 0, 1) := by decide +kernel
theorem dX11_whoBuilt_161 : decode cX11_whoBuilt 161 = .ok (.invokevirtual 200, 3) := by decide +kernel
theorem dX11_whoBuilt_164 : decode cX11_whoBuilt 164 = .ok (.iload_n 3, 1) := by decide +kernel
theorem dX11_whoBuilt_165 : decode cX11_whoBuilt 165 = .ok (.iload 6, 2) := by decide +kernel
theorem dX11_whoBuilt_167 : decode cX11_whoBuilt 167 = .ok (.ifCond .eq 7, 3) := by decide +kernel
theorem dX11_whoBuilt_170 : decode cX11_whoBuilt 170 = .ok (.iconst 1, 1) := by decide +kernel
theorem dX11_whoBuilt_171 : decode cX11_whoBuilt 171 = .ok (.goto 4, 3) := by decide +kernel
theorem dX11_whoBuilt_174 : decode cX11_whoBuilt 174 = .ok (.iconst 0, 1) := by decide +kernel
theorem dX11_whoBuilt_175 : decode cX11_whoBuilt 175 = .ok (.iadd, 1) := by decide +kernel
theorem dX11_whoBuilt_176 : decode cX11_whoBuilt 176 = .ok (.istore_n 3, 1) := by decide +kernel
theorem dX11_whoBuilt_177 : decode cX11_whoBuilt 177 = .ok (.iload 6, 2) := by decide +kernel
theorem dX11_whoBuilt_179 : decode cX11_whoBuilt 179 = .ok (.ifCond .eq 13, 3) := by decide +kernel
theorem dX11_whoBuilt_182 : decode cX11_whoBuilt 182 = .ok (.iload 4, 2) := by decide +kernel
theorem dX11_whoBuilt_184 : decode cX11_whoBuilt 184 = .ok (.ifCond .ge 8, 3) := by decide +kernel
theorem dX11_whoBuilt_187 : decode cX11_whoBuilt 187 = .ok (.iload 5, 2) := by decide +kernel
theorem dX11_whoBuilt_189 : decode cX11_whoBuilt 189 = .ok (.goto 5, 3) := by decide +kernel
theorem dX11_whoBuilt_192 : decode cX11_whoBuilt 192 = .ok (.iload 4, 2) := by decide +kernel
theorem dX11_whoBuilt_194 : decode cX11_whoBuilt 194 = .ok (.istore 4, 2) := by decide +kernel
theorem dX11_whoBuilt_196 : decode cX11_whoBuilt 196 = .ok (.iinc 5 1, 3) := by decide +kernel
theorem dX11_whoBuilt_199 : decode cX11_whoBuilt 199 = .ok (.goto (-138), 3) := by decide +kernel
theorem dX11_whoBuilt_202 : decode cX11_whoBuilt 202 = .ok (.iload_n 1, 1) := by decide +kernel
theorem dX11_whoBuilt_203 : decode cX11_whoBuilt 203 = .ok (.ifCond .ne 7, 3) := by decide +kernel
theorem dX11_whoBuilt_206 : decode cX11_whoBuilt 206 = .ok (.iload_n 3, 1) := by decide +kernel
theorem dX11_whoBuilt_207 : decode cX11_whoBuilt 207 = .ok (.goto 5, 3) := by decide +kernel
theorem dX11_whoBuilt_210 : decode cX11_whoBuilt 210 = .ok (.iload 4, 2) := by decide +kernel
theorem dX11_whoBuilt_212 : decode cX11_whoBuilt 212 = .ok (.ireturn, 1) := by decide +kernel
theorem dX11_births_0 : decode cX11_births 0 = .ok (.aload_n 0, 1) := by decide +kernel
theorem dX11_births_1 : decode cX11_births 1 = .ok (.iconst 0, 1) := by decide +kernel
theorem dX11_births_2 : decode cX11_births 2 = .ok (.putfield 83, 3) := by decide +kernel
theorem dX11_births_5 : decode cX11_births 5 = .ok (.iconst 0, 1) := by decide +kernel
theorem dX11_births_6 : decode cX11_births 6 = .ok (.istore 6, 2) := by decide +kernel
theorem dX11_births_8 : decode cX11_births 8 = .ok (.aload_n 0, 1) := by decide +kernel
theorem dX11_births_9 : decode cX11_births 9 = .ok (.iload_n 1, 1) := by decide +kernel
theorem dX11_births_10 : decode cX11_births 10 = .ok (.invokevirtual 188, 3) := by decide +kernel
theorem dX11_births_13 : decode cX11_births 13 = .ok (.ifCond .ne 9, 3) := by decide +kernel
theorem dX11_births_16 : decode cX11_births 16 = .ok (.iconst (-1), 1) := by decide +kernel
theorem dX11_births_17 : decode cX11_births 17 = .ok (.istore 6, 2) := by decide +kernel
theorem dX11_births_19 : decode cX11_births 19 = .ok (.goto 48, 3) := by decide +kernel
theorem dX11_births_22 : decode cX11_births 22 = .ok (.iload_n 2, 1) := by decide +kernel
theorem dX11_births_23 : decode cX11_births 23 = .ok (.ifCond .lt 13, 3) := by decide +kernel
theorem dX11_births_26 : decode cX11_births 26 = .ok (.iload_n 3, 1) := by decide +kernel
theorem dX11_births_27 : decode cX11_births 27 = .ok (.ifCond .lt 9, 3) := by decide +kernel
theorem dX11_births_30 : decode cX11_births 30 = .ok (.iload 4, 2) := by decide +kernel
theorem dX11_births_32 : decode cX11_births 32 = .ok (.iconst 2, 1) := by decide +kernel
theorem dX11_births_33 : decode cX11_births 33 = .ok (.if_icmp .ge 10, 3) := by decide +kernel
theorem dX11_births_36 : decode cX11_births 36 = .ok (.bipush (-4), 2) := by decide +kernel
theorem dX11_births_38 : decode cX11_births 38 = .ok (.istore 6, 2) := by decide +kernel
theorem dX11_births_40 : decode cX11_births 40 = .ok (.goto 27, 3) := by decide +kernel
theorem dX11_births_43 : decode cX11_births 43 = .ok (.iload_n 2, 1) := by decide +kernel
theorem dX11_births_44 : decode cX11_births 44 = .ok (.bipush 8, 2) := by decide +kernel
theorem dX11_births_46 : decode cX11_births 46 = .ok (.if_icmp .gt 17, 3) := by decide +kernel
theorem dX11_births_49 : decode cX11_births 49 = .ok (.iload_n 3, 1) := by decide +kernel
theorem dX11_births_50 : decode cX11_births 50 = .ok (.sipush 999, 3) := by decide +kernel
theorem dX11_births_53 : decode cX11_births 53 = .ok (.if_icmp .gt 10, 3) := by decide +kernel
theorem dX11_births_56 : decode cX11_births 56 = .ok (.iload 4, 2) := by decide +kernel
theorem dX11_births_58 : decode cX11_births 58 = .ok (.bipush 20, 2) := by decide +kernel
theorem dX11_births_60 : decode cX11_births 60 = .ok (.if_icmp .le 7, 3) := by decide +kernel
theorem dX11_births_63 : decode cX11_births 63 = .ok (.bipush (-6), 2) := by decide +kernel
theorem dX11_births_65 : decode cX11_births 65 = .ok (.istore 6, 2) := by decide +kernel
theorem dX11_births_67 : decode cX11_births 67 = .ok (.iload 6, 2) := by decide +kernel
theorem dX11_births_69 : decode cX11_births 69 = .ok (.iload 5, 2) := by decide +kernel
theorem dX11_births_71 : decode cX11_births 71 = .ok (.iconst 1, 1) := by decide +kernel
theorem dX11_births_72 : decode cX11_births 72 = .ok (.invokestatic 241, 3) := by decide +kernel
theorem dX11_births_75 : decode cX11_births 75 = .ok (.istore 6, 2) := by decide +kernel
theorem dX11_births_77 : decode cX11_births 77 = .ok (.iload 6, 2) := by decide +kernel
theorem dX11_births_79 : decode cX11_births 79 = .ok (.ifCond .ge 15, 3) := by decide +kernel
theorem dX11_births_82 : decode cX11_births 82 = .ok (.ldc2_w 283, 3) := by decide +kernel
theorem dX11_births_85 : decode cX11_births 85 = .ok (.aload_n 0, 1) := by decide +kernel
theorem dX11_births_86 : decode cX11_births 86 = .ok (.iload 6, 2) := by decide +kernel
theorem dX11_births_88 : decode cX11_births 88 = .ok (.invokevirtual 134, 3) := by decide +kernel
theorem dX11_births_91 : decode cX11_births 91 = .ok (.i2l, 1) := by decide +kernel
theorem dX11_births_92 : decode cX11_births 92 = .ok (.lsub, 1) := by decide +kernel
