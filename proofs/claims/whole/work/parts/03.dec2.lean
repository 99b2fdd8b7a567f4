theorem dX12_feed_38 : decode cX12_feed 38 = .ok (.iastore, 1) := by decide +kernel
theorem dX12_feed_39 : decode cX12_feed 39 = .ok (.aload_n 0, 1) := by decide +kernel
theorem dX12_feed_40 : decode cX12_feed 40 = .ok (.dup, 1) := by decide +kernel
theorem dX12_feed_41 : decode cX12_feed 41 = .ok (.getfield 76, 3) := by decide +kernel
theorem dX12_feed_44 : decode cX12_feed 44 = .ok (.iconst 1, 1) := by decide +kernel
theorem dX12_feed_45 : decode cX12_feed 45 = .ok (.iadd, 1) := by decide +kernel
theorem dX12_feed_46 : decode cX12_feed 46 = .ok (.putfield 76, 3) := by decide +kernel
theorem dX12_feed_49 : decode cX12_feed 49 = .ok (.iinc 3 (-8), 3) := by decide +kernel
theorem dX12_feed_52 : decode cX12_feed 52 = .ok (.goto (-34), 3) := by decide +kernel
theorem dX12_feed_55 : decode cX12_feed 55 = .ok (.aload_n 0, 1) := by decide +kernel
theorem dX12_feed_56 : decode cX12_feed 56 = .ok (.getfield 76, 3) := by decide +kernel
theorem dX12_feed_59 : decode cX12_feed 59 = .ok (.ireturn, 1) := by decide +kernel
theorem dX12_end_0 : decode cX12_end 0 = .ok (.iload_n 1, 1) := by decide +kernel
theorem dX12_end_1 : decode cX12_end 1 = .ok (.i2l, 1) := by decide +kernel
theorem dX12_end_2 : decode cX12_end 2 = .ok (.lconst 0, 1) := by decide +kernel
theorem dX12_end_3 : decode cX12_end 3 = .ok (.aload_n 0, 1) := by decide +kernel
theorem dX12_end_4 : decode cX12_end 4 = .ok (.getfield 76, 3) := by decide +kernel
theorem dX12_end_7 : decode cX12_end 7 = .ok (.i2l, 1) := by decide +kernel
theorem dX12_end_8 : decode cX12_end 8 = .ok (.invokestatic 72, 3) := by decide +kernel
theorem dX12_end_11 : decode cX12_end 11 = .ok (.ifCond .ne 5, 3) := by decide +kernel
theorem dX12_end_14 : decode cX12_end 14 = .ok (.iconst (-1), 1) := by decide +kernel
theorem dX12_end_15 : decode cX12_end 15 = .ok (.ireturn, 1) := by decide +kernel
theorem dX12_end_16 : decode cX12_end 16 = .ok (.aload_n 0, 1) := by decide +kernel
theorem dX12_end_17 : decode cX12_end 17 = .ok (.getfield 76, 3) := by decide +kernel
theorem dX12_end_20 : decode cX12_end 20 = .ok (.istore_n 2, 1) := by decide +kernel
theorem dX12_end_21 : decode cX12_end 21 = .ok (.aload_n 0, 1) := by decide +kernel
theorem dX12_end_22 : decode cX12_end 22 = .ok (.iload_n 1, 1) := by decide +kernel
theorem dX12_end_23 : decode cX12_end 23 = .ok (.putfield 76, 3) := by decide +kernel
theorem dX12_end_26 : decode cX12_end 26 = .ok (.iload_n 2, 1) := by decide +kernel
theorem dX12_end_27 : decode cX12_end 27 = .ok (.ireturn, 1) := by decide +kernel
theorem dX12_byteAt_0 : decode cX12_byteAt 0 = .ok (.iload_n 1, 1) := by decide +kernel
theorem dX12_byteAt_1 : decode cX12_byteAt 1 = .ok (.aload_n 0, 1) := by decide +kernel
theorem dX12_byteAt_2 : decode cX12_byteAt 2 = .ok (.getfield 76, 3) := by decide +kernel
theorem dX12_byteAt_5 : decode cX12_byteAt 5 = .ok (.if_icmp .ge 12, 3) := by decide +kernel
theorem dX12_byteAt_8 : decode cX12_byteAt 8 = .ok (.aload_n 0, 1) := by decide +kernel
theorem dX12_byteAt_9 : decode cX12_byteAt 9 = .ok (.getfield 16, 3) := by decide +kernel
theorem dX12_byteAt_12 : decode cX12_byteAt 12 = .ok (.iload_n 1, 1) := by decide +kernel
theorem dX12_byteAt_13 : decode cX12_byteAt 13 = .ok (.iaload, 1) := by decide +kernel
theorem dX12_byteAt_14 : decode cX12_byteAt 14 = .ok (.goto 5, 3) := by decide +kernel
theorem dX12_byteAt_17 : decode cX12_byteAt 17 = .ok (.bipush (-4), 2) := by decide +kernel
theorem dX12_byteAt_19 : decode cX12_byteAt 19 = .ok (.ireturn, 1) := by decide +kernel
theorem dX12_fails_0 : decode cX12_fails 0 = .ok (.aload_n 0, 1) := by decide +kernel
theorem dX12_fails_1 : decode cX12_fails 1 = .ok (.getfield 80, 3) := by decide +kernel
theorem dX12_fails_4 : decode cX12_fails 4 = .ok (.ifCond .ne 16, 3) := by decide +kernel
theorem dX12_fails_7 : decode cX12_fails 7 = .ok (.aload_n 0, 1) := by decide +kernel
theorem dX12_fails_8 : decode cX12_fails 8 = .ok (.iload_n 1, 1) := by decide +kernel
theorem dX12_fails_9 : decode cX12_fails 9 = .ok (.putfield 80, 3) := by decide +kernel
theorem dX12_fails_12 : decode cX12_fails 12 = .ok (.aload_n 0, 1) := by decide +kernel
theorem dX12_fails_13 : decode cX12_fails 13 = .ok (.aload_n 0, 1) := by decide +kernel
theorem dX12_fails_14 : decode cX12_fails 14 = .ok (.getfield 83, 3) := by decide +kernel
theorem dX12_fails_17 : decode cX12_fails 17 = .ok (.putfield 86, 3) := by decide +kernel
theorem dX12_fails_20 : decode cX12_fails 20 = .ok (.return_, 1) := by decide +kernel
theorem dX12_nameAt_0 : decode cX12_nameAt 0 = .ok (.iconst 0, 1) := by decide +kernel
theorem dX12_nameAt_1 : decode cX12_nameAt 1 = .ok (.istore_n 3, 1) := by decide +kernel
theorem dX12_nameAt_2 : decode cX12_nameAt 2 = .ok (.iload_n 3, 1) := by decide +kernel
theorem dX12_nameAt_3 : decode cX12_nameAt 3 = .ok (.iconst 5, 1) := by decide +kernel
theorem dX12_nameAt_4 : decode cX12_nameAt 4 = .ok (.if_icmp .ge 98, 3) := by decide +kernel
theorem dX12_nameAt_7 : decode cX12_nameAt 7 = .ok (.iload_n 2, 1) := by decide +kernel
theorem dX12_nameAt_8 : decode cX12_nameAt 8 = .ok (.iload_n 1, 1) := by decide +kernel
theorem dX12_nameAt_9 : decode cX12_nameAt 9 = .ok (.isub, 1) := by decide +kernel
theorem dX12_nameAt_10 : decode cX12_nameAt 10 = .ok (.aload_n 0, 1) := by decide +kernel
theorem dX12_nameAt_11 : decode cX12_nameAt 11 = .ok (.getfield 19, 3) := by decide +kernel
theorem dX12_nameAt_14 : decode cX12_nameAt 14 = .ok (.iload_n 3, 1) := by decide +kernel
theorem dX12_nameAt_15 : decode cX12_nameAt 15 = .ok (.iconst 1, 1) := by decide +kernel
theorem dX12_nameAt_16 : decode cX12_nameAt 16 = .ok (.iadd, 1) := by decide +kernel
theorem dX12_nameAt_17 : decode cX12_nameAt 17 = .ok (.iaload, 1) := by decide +kernel
theorem dX12_nameAt_18 : decode cX12_nameAt 18 = .ok (.aload_n 0, 1) := by decide +kernel
theorem dX12_nameAt_19 : decode cX12_nameAt 19 = .ok (.getfield 19, 3) := by decide +kernel
theorem dX12_nameAt_22 : decode cX12_nameAt 22 = .ok (.iload_n 3, 1) := by decide +kernel
theorem dX12_nameAt_23 : decode cX12_nameAt 23 = .ok (.iaload, 1) := by decide +kernel
theorem dX12_nameAt_24 : decode cX12_nameAt 24 = .ok (.isub, 1) := by decide +kernel
theorem dX12_nameAt_25 : decode cX12_nameAt 25 = .ok (.if_icmp .ne 7, 3) := by decide +kernel
theorem dX12_nameAt_28 : decode cX12_nameAt 28 = .ok (.iconst 1, 1) := by decide +kernel
theorem dX12_nameAt_29 : decode cX12_nameAt 29 = .ok (.goto 4, 3) := by decide +kernel
theorem dX12_nameAt_32 : decode cX12_nameAt 32 = .ok (.iconst 0, 1) := by decide +kernel
theorem dX12_nameAt_33 : decode cX12_nameAt 33 = .ok (.istore 4, 2) := by decide +kernel
theorem dX12_nameAt_35 : decode cX12_nameAt 35 = .ok (.iconst 0, 1) := by decide +kernel
theorem dX12_nameAt_36 : decode cX12_nameAt 36 = .ok (.istore 5, 2) := by decide +kernel
theorem dX12_nameAt_38 : decode cX12_nameAt 38 = .ok (.iload 5, 2) := by decide +kernel
theorem dX12_nameAt_40 : decode cX12_nameAt 40 = .ok (.iload_n 2, 1) := by decide +kernel
theorem dX12_nameAt_41 : decode cX12_nameAt 41 = .ok (.iload_n 1, 1) := by decide +kernel
theorem dX12_nameAt_42 : decode cX12_nameAt 42 = .ok (.isub, 1) := by decide +kernel
theorem dX12_nameAt_43 : decode cX12_nameAt 43 = .ok (.if_icmp .ge 46, 3) := by decide +kernel
theorem dX12_nameAt_46 : decode cX12_nameAt 46 = .ok (.iload 4, 2) := by decide +kernel
theorem dX12_nameAt_48 : decode cX12_nameAt 48 = .ok (.ifCond .eq 41, 3) := by decide +kernel
theorem dX12_nameAt_51 : decode cX12_nameAt 51 = .ok (.aload_n 0, 1) := by decide +kernel
theorem dX12_nameAt_52 : decode cX12_nameAt 52 = .ok (.iload_n 1, 1) := by decide +kernel
theorem dX12_nameAt_53 : decode cX12_nameAt 53 = .ok (.iload 5, 2) := by decide +kernel
theorem dX12_nameAt_55 : decode cX12_nameAt 55 = .ok (.iadd, 1) := by decide +kernel
theorem dX12_nameAt_56 : decode cX12_nameAt 56 = .ok (.invokevirtual 89, 3) := by decide +kernel
theorem dX12_nameAt_59 : decode cX12_nameAt 59 = .ok (.aload_n 0, 1) := by decide +kernel
theorem dX12_nameAt_60 : decode cX12_nameAt 60 = .ok (.getfield 22, 3) := by decide +kernel
theorem dX12_nameAt_63 : decode cX12_nameAt 63 = .ok (.aload_n 0, 1) := by decide +kernel
theorem dX12_nameAt_64 : decode cX12_nameAt 64 = .ok (.getfield 19, 3) := by decide +kernel
theorem dX12_nameAt_67 : decode cX12_nameAt 67 = .ok (.iload_n 3, 1) := by decide +kernel
theorem dX12_nameAt_68 : decode cX12_nameAt 68 = .ok (.iaload, 1) := by decide +kernel
theorem dX12_nameAt_69 : decode cX12_nameAt 69 = .ok (.iload 5, 2) := by decide +kernel
theorem dX12_nameAt_71 : decode cX12_nameAt 71 = .ok (.iadd, 1) := by decide +kernel
theorem dX12_nameAt_72 : decode cX12_nameAt 72 = .ok (.iaload, 1) := by decide +kernel
theorem dX12_nameAt_73 : decode cX12_nameAt 73 = .ok (.if_icmp .ne 7, 3) := by decide +kernel
theorem dX12_nameAt_76 : decode cX12_nameAt 76 = .ok (.iconst 1, 1) := by decide +kernel
theorem dX12_nameAt_77 : decode cX12_nameAt 77 = .ok (.goto 4, 3) := by decide +kernel
theorem dX12_nameAt_80 : decode cX12_nameAt 80 = .ok (.iconst 0, 1) := by decide +kernel
theorem dX12_nameAt_81 : decode cX12_nameAt 81 = .ok (.istore 4, 2) := by decide +kernel
theorem dX12_nameAt_83 : decode cX12_nameAt 83 = .ok (.iinc 5 1, 3) := by decide +kernel
theorem dX12_nameAt_86 : decode cX12_nameAt 86 = .ok (.goto (-48), 3) := by decide +kernel
theorem dX12_nameAt_89 : decode cX12_nameAt 89 = .ok (.iload 4, 2) := by decide +kernel
theorem dX12_nameAt_91 : decode cX12_nameAt 91 = .ok (.ifCond .eq 5, 3) := by decide +kernel
theorem dX12_nameAt_94 : decode cX12_nameAt 94 = .ok (.iload_n 3, 1) := by decide +kernel
theorem dX12_nameAt_95 : decode cX12_nameAt 95 = .ok (.ireturn, 1) := by decide +kernel
theorem dX12_nameAt_96 : decode cX12_nameAt 96 = .ok (.iinc 3 1, 3) := by decide +kernel
theorem dX12_nameAt_99 : decode cX12_nameAt 99 = .ok (.goto (-97), 3) := by decide +kernel
theorem dX12_nameAt_102 : decode cX12_nameAt 102 = .ok (.bipush (-4), 2) := by decide +kernel
theorem dX12_nameAt_104 : decode cX12_nameAt 104 = .ok (.ireturn, 1) := by decide +kernel
theorem dX12_next_0 : decode cX12_next 0 = .ok (.aload_n 0, 1) := by decide +kernel
theorem dX12_next_1 : decode cX12_next 1 = .ok (.getfield 80, 3) := by decide +kernel
theorem dX12_next_4 : decode cX12_next 4 = .ok (.ifCond .le 4, 3) := by decide +kernel
theorem dX12_next_7 : decode cX12_next 7 = .ok (.return_, 1) := by decide +kernel
theorem dX12_next_8 : decode cX12_next 8 = .ok (.aload_n 0, 1) := by decide +kernel
theorem dX12_next_9 : decode cX12_next 9 = .ok (.aload_n 0, 1) := by decide +kernel
theorem dX12_next_10 : decode cX12_next 10 = .ok (.getfield 93, 3) := by decide +kernel
theorem dX12_next_13 : decode cX12_next 13 = .ok (.invokevirtual 89, 3) := by decide +kernel
theorem dX12_next_16 : decode cX12_next 16 = .ok (.bipush 32, 2) := by decide +kernel
theorem dX12_next_18 : decode cX12_next 18 = .ok (.if_icmp .ne 16, 3) := by decide +kernel
theorem dX12_next_21 : decode cX12_next 21 = .ok (.aload_n 0, 1) := by decide +kernel
theorem dX12_next_22 : decode cX12_next 22 = .ok (.dup, 1) := by decide +kernel
theorem dX12_next_23 : decode cX12_next 23 = .ok (.getfield 93, 3) := by decide +kernel
theorem dX12_next_26 : decode cX12_next 26 = .ok (.iconst 1, 1) := by decide +kernel
theorem dX12_next_27 : decode cX12_next 27 = .ok (.iadd, 1) := by decide +kernel
theorem dX12_next_28 : decode cX12_next 28 = .ok (.putfield 93, 3) := by decide +kernel
theorem dX12_next_31 : decode cX12_next 31 = .ok (.goto (-23), 3) := by decide +kernel
theorem dX12_next_34 : decode cX12_next 34 = .ok (.aload_n 0, 1) := by decide +kernel
theorem dX12_next_35 : decode cX12_next 35 = .ok (.aload_n 0, 1) := by decide +kernel
theorem dX12_next_36 : decode cX12_next 36 = .ok (.getfield 93, 3) := by decide +kernel
theorem dX12_next_39 : decode cX12_next 39 = .ok (.putfield 83, 3) := by decide +kernel
theorem dX12_next_42 : decode cX12_next 42 = .ok (.aload_n 0, 1) := by decide +kernel
theorem dX12_next_43 : decode cX12_next 43 = .ok (.aload_n 0, 1) := by decide +kernel
theorem dX12_next_44 : decode cX12_next 44 = .ok (.getfield 93, 3) := by decide +kernel
theorem dX12_next_47 : decode cX12_next 47 = .ok (.invokevirtual 89, 3) := by decide +kernel
theorem dX12_next_50 : decode cX12_next 50 = .ok (.istore_n 1, 1) := by decide +kernel
theorem dX12_next_51 : decode cX12_next 51 = .ok (.aload_n 0, 1) := by decide +kernel
theorem dX12_next_52 : decode cX12_next 52 = .ok (.iconst 0, 1) := by decide +kernel
theorem dX12_next_53 : decode cX12_next 53 = .ok (.putfield 96, 3) := by decide +kernel
theorem dX12_next_56 : decode cX12_next 56 = .ok (.iload_n 1, 1) := by decide +kernel
theorem dX12_next_57 : decode cX12_next 57 = .ok (.bipush (-4), 2) := by decide +kernel
theorem dX12_next_59 : decode cX12_next 59 = .ok (.if_icmp .ne 11, 3) := by decide +kernel
theorem dX12_next_62 : decode cX12_next 62 = .ok (.aload_n 0, 1) := by decide +kernel
theorem dX12_next_63 : decode cX12_next 63 = .ok (.iconst 0, 1) := by decide +kernel
theorem dX12_next_64 : decode cX12_next 64 = .ok (.putfield 99, 3) := by decide +kernel
theorem dX12_next_67 : decode cX12_next 67 = .ok (.goto 232, 3) := by decide +kernel
theorem dX12_next_70 : decode cX12_next 70 = .ok (.iload_n 1, 1) := by decide +kernel
theorem dX12_next_71 : decode cX12_next 71 = .ok (.i2l, 1) := by decide +kernel
theorem dX12_next_72 : decode cX12_next 72 = .ok (.ldc2_w 102, 3) := by decide +kernel
theorem dX12_next_75 : decode cX12_next 75 = .ok (.ldc2_w 104, 3) := by decide +kernel
theorem dX12_next_78 : decode cX12_next 78 = .ok (.invokestatic 72, 3) := by decide +kernel
theorem dX12_next_81 : decode cX12_next 81 = .ok (.ifCond .eq 75, 3) := by decide +kernel
theorem dX12_next_84 : decode cX12_next 84 = .ok (.aload_n 0, 1) := by decide +kernel
theorem dX12_next_85 : decode cX12_next 85 = .ok (.aload_n 0, 1) := by decide +kernel
theorem dX12_next_86 : decode cX12_next 86 = .ok (.getfield 93, 3) := by decide +kernel
theorem dX12_next_89 : decode cX12_next 89 = .ok (.invokevirtual 89, 3) := by decide +kernel
theorem dX12_next_92 : decode cX12_next 92 = .ok (.i2l, 1) := by decide +kernel
theorem dX12_next_93 : decode cX12_next 93 = .ok (.ldc2_w 102, 3) := by decide +kernel
theorem dX12_next_96 : decode cX12_next 96 = .ok (.ldc2_w 104, 3) := by decide +kernel
theorem dX12_next_99 : decode cX12_next 99 = .ok (.invokestatic 72, 3) := by decide +kernel
theorem dX12_next_102 : decode cX12_next 102 = .ok (.ifCond .eq 16, 3) := by decide +kernel
theorem dX12_next_105 : decode cX12_next 105 = .ok (.aload_n 0, 1) := by decide +kernel
theorem dX12_next_106 : decode cX12_next 106 = .ok (.dup, 1) := by decide +kernel
theorem dX12_next_107 : decode cX12_next 107 = .ok (.getfield 93, 3) := by decide +kernel
theorem dX12_next_110 : decode cX12_next 110 = .ok (.iconst 1, 1) := by decide +kernel
theorem dX12_next_111 : decode cX12_next 111 = .ok (.iadd, 1) := by decide +kernel
theorem dX12_next_112 : decode cX12_next 112 = .ok (.putfield 93, 3) := by decide +kernel
theorem dX12_next_115 : decode cX12_next 115 = .ok (.goto (-31), 3) := by decide +kernel
theorem dX12_next_118 : decode cX12_next 118 = .ok (.aload_n 0, 1) := by decide +kernel
theorem dX12_next_119 : decode cX12_next 119 = .ok (.iconst 1, 1) := by decide +kernel
theorem dX12_next_120 : decode cX12_next 120 = .ok (.putfield 99, 3) := by decide +kernel
theorem dX12_next_123 : decode cX12_next 123 = .ok (.aload_n 0, 1) := by decide +kernel
theorem dX12_next_124 : decode cX12_next 124 = .ok (.aload_n 0, 1) := by decide +kernel
theorem dX12_next_125 : decode cX12_next 125 = .ok (.aload_n 0, 1) := by decide +kernel
theorem dX12_next_126 : decode cX12_next 126 = .ok (.getfield 83, 3) := by decide +kernel
theorem dX12_next_129 : decode cX12_next 129 = .ok (.aload_n 0, 1) := by decide +kernel
theorem dX12_next_130 : decode cX12_next 130 = .ok (.getfield 93, 3) := by decide +kernel
theorem dX12_next_133 : decode cX12_next 133 = .ok (.invokevirtual 106, 3) := by decide +kernel
theorem dX12_next_136 : decode cX12_next 136 = .ok (.putfield 96, 3) := by decide +kernel
theorem dX12_next_139 : decode cX12_next 139 = .ok (.aload_n 0, 1) := by decide +kernel
theorem dX12_next_140 : decode cX12_next 140 = .ok (.getfield 96, 3) := by decide +kernel
theorem dX12_next_143 : decode cX12_next 143 = .ok (.bipush (-4), 2) := by decide +kernel
theorem dX12_next_145 : decode cX12_next 145 = .ok (.if_icmp .ne 154, 3) := by decide +kernel
theorem dX12_next_148 : decode cX12_next 148 = .ok (.aload_n 0, 1) := by decide +kernel
theorem dX12_next_149 : decode cX12_next 149 = .ok (.iconst 1, 1) := by decide +kernel
theorem dX12_next_150 : decode cX12_next 150 = .ok (.invokevirtual 110, 3) := by decide +kernel
theorem dX12_next_153 : decode cX12_next 153 = .ok (.goto 146, 3) := by decide +kernel
theorem dX12_next_156 : decode cX12_next 156 = .ok (.iload_n 1, 1) := by decide +kernel
theorem dX12_next_157 : decode cX12_next 157 = .ok (.i2l, 1) := by decide +kernel
theorem dX12_next_158 : decode cX12_next 158 = .ok (.ldc2_w 114, 3) := by decide +kernel
theorem dX12_next_161 : decode cX12_next 161 = .ok (.ldc2_w 116, 3) := by decide +kernel
theorem dX12_next_164 : decode cX12_next 164 = .ok (.invokestatic 72, 3) := by decide +kernel
theorem dX12_next_167 : decode cX12_next 167 = .ok (.ifCond .eq 106, 3) := by decide +kernel
theorem dX12_next_170 : decode cX12_next 170 = .ok (.aload_n 0, 1) := by decide +kernel
theorem dX12_next_171 : decode cX12_next 171 = .ok (.aload_n 0, 1) := by decide +kernel
theorem dX12_next_172 : decode cX12_next 172 = .ok (.getfield 93, 3) := by decide +kernel
theorem dX12_next_175 : decode cX12_next 175 = .ok (.invokevirtual 89, 3) := by decide +kernel
theorem dX12_next_178 : decode cX12_next 178 = .ok (.i2l, 1) := by decide +kernel
theorem dX12_next_179 : decode cX12_next 179 = .ok (.ldc2_w 114, 3) := by decide +kernel
theorem dX12_next_182 : decode cX12_next 182 = .ok (.ldc2_w 116, 3) := by decide +kernel
theorem dX12_next_185 : decode cX12_next 185 = .ok (.invokestatic 72, 3) := by decide +kernel
theorem dX12_next_188 : decode cX12_next 188 = .ok (.ifCond .eq 59, 3) := by decide +kernel
theorem dX12_next_191 : decode cX12_next 191 = .ok (.aload_n 0, 1) := by decide +kernel
theorem dX12_next_192 : decode cX12_next 192 = .ok (.aload_n 0, 1) := by decide +kernel
theorem dX12_next_193 : decode cX12_next 193 = .ok (.getfield 93, 3) := by decide +kernel
theorem dX12_next_196 : decode cX12_next 196 = .ok (.aload_n 0, 1) := by decide +kernel
theorem dX12_next_197 : decode cX12_next 197 = .ok (.getfield 83, 3) := by decide +kernel
theorem dX12_next_200 : decode cX12_next 200 = .ok (.isub, 1) := by decide +kernel
theorem dX12_next_201 : decode cX12_next 201 = .ok (.iconst 2, 1) := by decide +kernel
theorem dX12_next_202 : decode cX12_next 202 = .ok (.if_icmp .ge 25, 3) := by decide +kernel
theorem dX12_next_205 : decode cX12_next 205 = .ok (.bipush 10, 2) := by decide +kernel
theorem dX12_next_207 : decode cX12_next 207 = .ok (.aload_n 0, 1) := by decide +kernel
theorem dX12_next_208 : decode cX12_next 208 = .ok (.getfield 96, 3) := by decide +kernel
theorem dX12_next_211 : decode cX12_next 211 = .ok (.imul, 1) := by decide +kernel
theorem dX12_next_212 : decode cX12_next 212 = .ok (.aload_n 0, 1) := by decide +kernel
theorem dX12_next_213 : decode cX12_next 213 = .ok (.aload_n 0, 1) := by decide +kernel
theorem dX12_next_214 : decode cX12_next 214 = .ok (.getfield 93, 3) := by decide +kernel
theorem dX12_next_217 : decode cX12_next 217 = .ok (.invokevirtual 89, 3) := by decide +kernel
theorem dX12_next_220 : decode cX12_next 220 = .ok (.iadd, 1) := by decide +kernel
theorem dX12_next_221 : decode cX12_next 221 = .ok (.bipush 48, 2) := by decide +kernel
theorem dX12_next_223 : decode cX12_next 223 = .ok (.isub, 1) := by decide +kernel
theorem dX12_next_224 : decode cX12_next 224 = .ok (.goto 7, 3) := by decide +kernel
theorem dX12_next_227 : decode cX12_next 227 = .ok (.aload_n 0, 1) := by decide +kernel
theorem dX12_next_228 : decode cX12_next 228 = .ok (.getfield 96, 3) := by decide +kernel
theorem dX12_next_231 : decode cX12_next 231 = .ok (.putfield 96, 3) := by decide +kernel
theorem dX12_next_234 : decode cX12_next 234 = .ok (.aload_n 0, 1) := by decide +kernel
theorem dX12_next_235 : decode cX12_next 235 = .ok (.dup, 1) := by decide +kernel
theorem dX12_next_236 : decode cX12_next 236 = .ok (.getfield 93, 3) := by decide +kernel
theorem dX12_next_239 : decode cX12_next 239 = .ok (.iconst 1, 1) := by decide +kernel
theorem dX12_next_240 : decode cX12_next 240 = .ok (.iadd, 1) := by decide +kernel
theorem dX12_next_241 : decode cX12_next 241 = .ok (.putfield 93, 3) := by decide +kernel
theorem dX12_next_244 : decode cX12_next 244 = .ok (.goto (-74), 3) := by decide +kernel
theorem dX12_next_247 : decode cX12_next 247 = .ok (.aload_n 0, 1) := by decide +kernel
theorem dX12_next_248 : decode cX12_next 248 = .ok (.iconst 2, 1) := by decide +kernel
theorem dX12_next_249 : decode cX12_next 249 = .ok (.putfield 99, 3) := by decide +kernel
theorem dX12_next_252 : decode cX12_next 252 = .ok (.aload_n 0, 1) := by decide +kernel
theorem dX12_next_253 : decode cX12_next 253 = .ok (.getfield 93, 3) := by decide +kernel
theorem dX12_next_256 : decode cX12_next 256 = .ok (.aload_n 0, 1) := by decide +kernel
theorem dX12_next_257 : decode cX12_next 257 = .ok (.getfield 83, 3) := by decide +kernel
theorem dX12_next_260 : decode cX12_next 260 = .ok (.isub, 1) := by decide +kernel
theorem dX12_next_261 : decode cX12_next 261 = .ok (.iconst 2, 1) := by decide +kernel
theorem dX12_next_262 : decode cX12_next 262 = .ok (.if_icmp .le 37, 3) := by decide +kernel
theorem dX12_next_265 : decode cX12_next 265 = .ok (.aload_n 0, 1) := by decide +kernel
theorem dX12_next_266 : decode cX12_next 266 = .ok (.iconst 1, 1) := by decide +kernel
theorem dX12_next_267 : decode cX12_next 267 = .ok (.invokevirtual 110, 3) := by decide +kernel
theorem dX12_next_270 : decode cX12_next 270 = .ok (.goto 29, 3) := by decide +kernel
theorem dX12_next_273 : decode cX12_next 273 = .ok (.aload_n 0, 1) := by decide +kernel
theorem dX12_next_274 : decode cX12_next 274 = .ok (.iconst 3, 1) := by decide +kernel
theorem dX12_next_275 : decode cX12_next 275 = .ok (.putfield 99, 3) := by decide +kernel
theorem dX12_next_278 : decode cX12_next 278 = .ok (.aload_n 0, 1) := by decide +kernel
theorem dX12_next_279 : decode cX12_next 279 = .ok (.dup, 1) := by decide +kernel
theorem dX12_next_280 : decode cX12_next 280 = .ok (.getfield 93, 3) := by decide +kernel
theorem dX12_next_283 : decode cX12_next 283 = .ok (.iconst 1, 1) := by decide +kernel
theorem dX12_next_284 : decode cX12_next 284 = .ok (.iadd, 1) := by decide +kernel
theorem dX12_next_285 : decode cX12_next 285 = .ok (.putfield 93, 3) := by decide +kernel
theorem dX12_next_288 : decode cX12_next 288 = .ok (.iload_n 1, 1) := by decide +kernel
theorem dX12_next_289 : decode cX12_next 289 = .ok (.bipush 59, 2) := by decide +kernel
theorem dX12_next_291 : decode cX12_next 291 = .ok (.if_icmp .eq 8, 3) := by decide +kernel
theorem dX12_next_294 : decode cX12_next 294 = .ok (.aload_n 0, 1) := by decide +kernel
theorem dX12_next_295 : decode cX12_next 295 = .ok (.iconst 1, 1) := by decide +kernel
theorem dX12_next_296 : decode cX12_next 296 = .ok (.invokevirtual 110, 3) := by decide +kernel
theorem dX12_next_299 : decode cX12_next 299 = .ok (.return_, 1) := by decide +kernel
theorem dX12_number_0 : decode cX12_number 0 = .ok (.aload_n 0, 1) := by decide +kernel
theorem dX12_number_1 : decode cX12_number 1 = .ok (.getfield 80, 3) := by decide +kernel
theorem dX12_number_4 : decode cX12_number 4 = .ok (.ifCond .ne 16, 3) := by decide +kernel
theorem dX12_number_7 : decode cX12_number 7 = .ok (.aload_n 0, 1) := by decide +kernel
theorem dX12_number_8 : decode cX12_number 8 = .ok (.getfield 99, 3) := by decide +kernel
theorem dX12_number_11 : decode cX12_number 11 = .ok (.iconst 2, 1) := by decide +kernel
theorem dX12_number_12 : decode cX12_number 12 = .ok (.if_icmp .eq 8, 3) := by decide +kernel
theorem dX12_number_15 : decode cX12_number 15 = .ok (.aload_n 0, 1) := by decide +kernel
theorem dX12_number_16 : decode cX12_number 16 = .ok (.iconst 2, 1) := by decide +kernel
theorem dX12_number_17 : decode cX12_number 17 = .ok (.invokevirtual 110, 3) := by decide +kernel
theorem dX12_number_20 : decode cX12_number 20 = .ok (.aload_n 0, 1) := by decide +kernel
theorem dX12_number_21 : decode cX12_number 21 = .ok (.getfield 80, 3) := by decide +kernel
theorem dX12_number_24 : decode cX12_number 24 = .ok (.ifCond .ne 23, 3) := by decide +kernel
theorem dX12_number_27 : decode cX12_number 27 = .ok (.aload_n 0, 1) := by decide +kernel
theorem dX12_number_28 : decode cX12_number 28 = .ok (.getfield 96, 3) := by decide +kernel
theorem dX12_number_31 : decode cX12_number 31 = .ok (.i2l, 1) := by decide +kernel
theorem dX12_number_32 : decode cX12_number 32 = .ok (.iload_n 1, 1) := by decide +kernel
theorem dX12_number_33 : decode cX12_number 33 = .ok (.i2l, 1) := by decide +kernel
theorem dX12_number_34 : decode cX12_number 34 = .ok (.iload_n 2, 1) := by decide +kernel
theorem dX12_number_35 : decode cX12_number 35 = .ok (.i2l, 1) := by decide +kernel
theorem dX12_number_36 : decode cX12_number 36 = .ok (.invokestatic 72, 3) := by decide +kernel
theorem dX12_number_39 : decode cX12_number 39 = .ok (.ifCond .ne 8, 3) := by decide +kernel
theorem dX12_number_42 : decode cX12_number 42 = .ok (.aload_n 0, 1) := by decide +kernel
theorem dX12_number_43 : decode cX12_number 43 = .ok (.iconst 3, 1) := by decide +kernel
theorem dX12_number_44 : decode cX12_number 44 = .ok (.invokevirtual 110, 3) := by decide +kernel
theorem dX12_number_47 : decode cX12_number 47 = .ok (.aload_n 0, 1) := by decide +kernel
theorem dX12_number_48 : decode cX12_number 48 = .ok (.getfield 96, 3) := by decide +kernel
theorem dX12_number_51 : decode cX12_number 51 = .ok (.istore_n 3, 1) := by decide +kernel
theorem dX12_number_52 : decode cX12_number 52 = .ok (.aload_n 0, 1) := by decide +kernel
theorem dX12_number_53 : decode cX12_number 53 = .ok (.invokevirtual 118, 3) := by decide +kernel
theorem dX12_number_56 : decode cX12_number 56 = .ok (.iload_n 3, 1) := by decide +kernel
theorem dX12_number_57 : decode cX12_number 57 = .ok (.ireturn, 1) := by decide +kernel
theorem dX12_oneLine_0 : decode cX12_oneLine 0 = .ok (.aload_n 0, 1) := by decide +kernel
theorem dX12_oneLine_1 : decode cX12_oneLine 1 = .ok (.getfield 96, 3) := by decide +kernel
theorem dX12_oneLine_4 : decode cX12_oneLine 4 = .ok (.istore_n 1, 1) := by decide +kernel
theorem dX12_oneLine_5 : decode cX12_oneLine 5 = .ok (.aload_n 0, 1) := by decide +kernel
theorem dX12_oneLine_6 : decode cX12_oneLine 6 = .ok (.getfield 99, 3) := by decide +kernel
theorem dX12_oneLine_9 : decode cX12_oneLine 9 = .ok (.iconst 1, 1) := by decide +kernel
theorem dX12_oneLine_10 : decode cX12_oneLine 10 = .ok (.if_icmp .eq 11, 3) := by decide +kernel
theorem dX12_oneLine_13 : decode cX12_oneLine 13 = .ok (.aload_n 0, 1) := by decide +kernel
theorem dX12_oneLine_14 : decode cX12_oneLine 14 = .ok (.iconst 2, 1) := by decide +kernel
theorem dX12_oneLine_15 : decode cX12_oneLine 15 = .ok (.invokevirtual 110, 3) := by decide +kernel
theorem dX12_oneLine_18 : decode cX12_oneLine 18 = .ok (.goto 40, 3) := by decide +kernel
theorem dX12_oneLine_21 : decode cX12_oneLine 21 = .ok (.iload_n 1, 1) := by decide +kernel
theorem dX12_oneLine_22 : decode cX12_oneLine 22 = .ok (.iconst 1, 1) := by decide +kernel
theorem dX12_oneLine_23 : decode cX12_oneLine 23 = .ok (.if_icmp .ne 7, 3) := by decide +kernel
theorem dX12_oneLine_26 : decode cX12_oneLine 26 = .ok (.iconst 1, 1) := by decide +kernel
theorem dX12_oneLine_27 : decode cX12_oneLine 27 = .ok (.goto 6, 3) := by decide +kernel
theorem dX12_oneLine_30 : decode cX12_oneLine 30 = .ok (.iconst 1, 1) := by decide +kernel
theorem dX12_oneLine_31 : decode cX12_oneLine 31 = .ok (.iload_n 1, 1) := by decide +kernel
theorem dX12_oneLine_32 : decode cX12_oneLine 32 = .ok (.ishl, 1) := by decide +kernel
theorem dX12_oneLine_33 : decode cX12_oneLine 33 = .ok (.istore_n 2, 1) := by decide +kernel
theorem dX12_oneLine_34 : decode cX12_oneLine 34 = .ok (.aload_n 0, 1) := by decide +kernel
theorem dX12_oneLine_35 : decode cX12_oneLine 35 = .ok (.getfield 121, 3) := by decide +kernel
theorem dX12_oneLine_38 : decode cX12_oneLine 38 = .ok (.iload_n 2, 1) := by decide +kernel
theorem dX12_oneLine_39 : decode cX12_oneLine 39 = .ok (.iand, 1) := by decide +kernel
theorem dX12_oneLine_40 : decode cX12_oneLine 40 = .ok (.ifCond .eq 8, 3) := by decide +kernel
theorem dX12_oneLine_43 : decode cX12_oneLine 43 = .ok (.aload_n 0, 1) := by decide +kernel
theorem dX12_oneLine_44 : decode cX12_oneLine 44 = .ok (.iconst 4, 1) := by decide +kernel
theorem dX12_oneLine_45 : decode cX12_oneLine 45 = .ok (.invokevirtual 110, 3) := by decide +kernel
theorem dX12_oneLine_48 : decode cX12_oneLine 48 = .ok (.aload_n 0, 1) := by decide +kernel
theorem dX12_oneLine_49 : decode cX12_oneLine 49 = .ok (.dup, 1) := by decide +kernel
theorem dX12_oneLine_50 : decode cX12_oneLine 50 = .ok (.getfield 121, 3) := by decide +kernel
theorem dX12_oneLine_53 : decode cX12_oneLine 53 = .ok (.iload_n 2, 1) := by decide +kernel
theorem dX12_oneLine_54 : decode cX12_oneLine 54 = .ok (.ior, 1) := by decide +kernel
theorem dX12_oneLine_55 : decode cX12_oneLine 55 = .ok (.putfield 121, 3) := by decide +kernel
theorem dX12_oneLine_58 : decode cX12_oneLine 58 = .ok (.aload_n 0, 1) := by decide +kernel
theorem dX12_oneLine_59 : decode cX12_oneLine 59 = .ok (.getfield 80, 3) := by decide +kernel
theorem dX12_oneLine_62 : decode cX12_oneLine 62 = .ok (.ifCond .le 4, 3) := by decide +kernel
theorem dX12_oneLine_65 : decode cX12_oneLine 65 = .ok (.return_, 1) := by decide +kernel
theorem dX12_oneLine_66 : decode cX12_oneLine 66 = .ok (.aload_n 0, 1) := by decide +kernel
theorem dX12_oneLine_67 : decode cX12_oneLine 67 = .ok (.invokevirtual 118, 3) := by decide +kernel
theorem dX12_oneLine_70 : decode cX12_oneLine 70 = .ok (.iload_n 1, 1) := by decide +kernel
theorem dX12_oneLine_71 : decode cX12_oneLine 71 = .ok (.iconst 1, 1) := by decide +kernel
theorem dX12_oneLine_72 : decode cX12_oneLine 72 = .ok (.if_icmp .gt 34, 3) := by decide +kernel
theorem dX12_oneLine_75 : decode cX12_oneLine 75 = .ok (.aload_n 0, 1) := by decide +kernel
theorem dX12_oneLine_76 : decode cX12_oneLine 76 = .ok (.getfield 13, 3) := by decide +kernel
theorem dX12_oneLine_79 : decode cX12_oneLine 79 = .ok (.iconst 0, 1) := by decide +kernel
theorem dX12_oneLine_80 : decode cX12_oneLine 80 = .ok (.aload_n 0, 1) := by decide +kernel
theorem dX12_oneLine_81 : decode cX12_oneLine 81 = .ok (.iload_n 1, 1) := by decide +kernel
theorem dX12_oneLine_82 : decode cX12_oneLine 82 = .ok (.ifCond .ne 7, 3) := by decide +kernel
theorem dX12_oneLine_85 : decode cX12_oneLine 85 = .ok (.iconst 2, 1) := by decide +kernel
theorem dX12_oneLine_86 : decode cX12_oneLine 86 = .ok (.goto 4, 3) := by decide +kernel
theorem dX12_oneLine_89 : decode cX12_oneLine 89 = .ok (.iconst 1, 1) := by decide +kernel
theorem dX12_oneLine_90 : decode cX12_oneLine 90 = .ok (.bipush 6, 2) := by decide +kernel
theorem dX12_oneLine_92 : decode cX12_oneLine 92 = .ok (.invokevirtual 124, 3) := by decide +kernel
theorem dX12_oneLine_95 : decode cX12_oneLine 95 = .ok (.iastore, 1) := by decide +kernel
theorem dX12_oneLine_96 : decode cX12_oneLine 96 = .ok (.aload_n 0, 1) := by decide +kernel
theorem dX12_oneLine_97 : decode cX12_oneLine 97 = .ok (.getfield 13, 3) := by decide +kernel
theorem dX12_oneLine_100 : decode cX12_oneLine 100 = .ok (.iconst 1, 1) := by decide +kernel
theorem dX12_oneLine_101 : decode cX12_oneLine 101 = .ok (.iload_n 1, 1) := by decide +kernel
theorem dX12_oneLine_102 : decode cX12_oneLine 102 = .ok (.iastore, 1) := by decide +kernel
theorem dX12_oneLine_103 : decode cX12_oneLine 103 = .ok (.goto 52, 3) := by decide +kernel
theorem dX12_oneLine_106 : decode cX12_oneLine 106 = .ok (.iload_n 1, 1) := by decide +kernel
theorem dX12_oneLine_107 : decode cX12_oneLine 107 = .ok (.iconst 2, 1) := by decide +kernel
theorem dX12_oneLine_108 : decode cX12_oneLine 108 = .ok (.if_icmp .ne 7, 3) := by decide +kernel
theorem dX12_oneLine_111 : decode cX12_oneLine 111 = .ok (.iconst 2, 1) := by decide +kernel
theorem dX12_oneLine_112 : decode cX12_oneLine 112 = .ok (.goto 14, 3) := by decide +kernel
theorem dX12_oneLine_115 : decode cX12_oneLine 115 = .ok (.iload_n 1, 1) := by decide +kernel
theorem dX12_oneLine_116 : decode cX12_oneLine 116 = .ok (.iconst 3, 1) := by decide +kernel
theorem dX12_oneLine_117 : decode cX12_oneLine 117 = .ok (.if_icmp .ne 7, 3) := by decide +kernel
theorem dX12_oneLine_120 : decode cX12_oneLine 120 = .ok (.iconst 4, 1) := by decide +kernel
theorem dX12_oneLine_121 : decode cX12_oneLine 121 = .ok (.goto 5, 3) := by decide +kernel
theorem dX12_oneLine_124 : decode cX12_oneLine 124 = .ok (.bipush 6, 2) := by decide +kernel
theorem dX12_oneLine_126 : decode cX12_oneLine 126 = .ok (.istore_n 2, 1) := by decide +kernel
theorem dX12_oneLine_127 : decode cX12_oneLine 127 = .ok (.aload_n 0, 1) := by decide +kernel
theorem dX12_oneLine_128 : decode cX12_oneLine 128 = .ok (.getfield 13, 3) := by decide +kernel
theorem dX12_oneLine_131 : decode cX12_oneLine 131 = .ok (.iload_n 2, 1) := by decide +kernel
theorem dX12_oneLine_132 : decode cX12_oneLine 132 = .ok (.aload_n 0, 1) := by decide +kernel
theorem dX12_oneLine_133 : decode cX12_oneLine 133 = .ok (.iconst 0, 1) := by decide +kernel
theorem dX12_oneLine_134 : decode cX12_oneLine 134 = .ok (.bipush 9, 2) := by decide +kernel
theorem dX12_oneLine_136 : decode cX12_oneLine 136 = .ok (.invokevirtual 124, 3) := by decide +kernel
theorem dX12_oneLine_139 : decode cX12_oneLine 139 = .ok (.iastore, 1) := by decide +kernel
theorem dX12_oneLine_140 : decode cX12_oneLine 140 = .ok (.aload_n 0, 1) := by decide +kernel
theorem dX12_oneLine_141 : decode cX12_oneLine 141 = .ok (.getfield 13, 3) := by decide +kernel
theorem dX12_oneLine_144 : decode cX12_oneLine 144 = .ok (.iload_n 2, 1) := by decide +kernel
theorem dX12_oneLine_145 : decode cX12_oneLine 145 = .ok (.iconst 1, 1) := by decide +kernel
theorem dX12_oneLine_146 : decode cX12_oneLine 146 = .ok (.iadd, 1) := by decide +kernel
theorem dX12_oneLine_147 : decode cX12_oneLine 147 = .ok (.aload_n 0, 1) := by decide +kernel
theorem dX12_oneLine_148 : decode cX12_oneLine 148 = .ok (.iconst 0, 1) := by decide +kernel
theorem dX12_oneLine_149 : decode cX12_oneLine 149 = .ok (.bipush 9, 2) := by decide +kernel
theorem dX12_oneLine_151 : decode cX12_oneLine 151 = .ok (.invokevirtual 124, 3) := by decide +kernel
theorem dX12_oneLine_154 : decode cX12_oneLine 154 = .ok (.iastore, 1) := by decide +kernel
theorem dX12_oneLine_155 : decode cX12_oneLine 155 = .ok (.aload_n 0, 1) := by decide +kernel
theorem dX12_oneLine_156 : decode cX12_oneLine 156 = .ok (.getfield 80, 3) := by decide +kernel
theorem dX12_oneLine_159 : decode cX12_oneLine 159 = .ok (.ifCond .ne 16, 3) := by decide +kernel
theorem dX12_oneLine_162 : decode cX12_oneLine 162 = .ok (.aload_n 0, 1) := by decide +kernel
theorem dX12_oneLine_163 : decode cX12_oneLine 163 = .ok (.getfield 99, 3) := by decide +kernel
theorem dX12_oneLine_166 : decode cX12_oneLine 166 = .ok (.iconst 3, 1) := by decide +kernel
theorem dX12_oneLine_167 : decode cX12_oneLine 167 = .ok (.if_icmp .eq 8, 3) := by decide +kernel
theorem dX12_oneLine_170 : decode cX12_oneLine 170 = .ok (.aload_n 0, 1) := by decide +kernel
theorem dX12_oneLine_171 : decode cX12_oneLine 171 = .ok (.iconst 2, 1) := by decide +kernel
theorem dX12_oneLine_172 : decode cX12_oneLine 172 = .ok (.invokevirtual 110, 3) := by decide +kernel
theorem dX12_oneLine_175 : decode cX12_oneLine 175 = .ok (.aload_n 0, 1) := by decide +kernel
theorem dX12_oneLine_176 : decode cX12_oneLine 176 = .ok (.invokevirtual 118, 3) := by decide +kernel
theorem dX12_oneLine_179 : decode cX12_oneLine 179 = .ok (.return_, 1) := by decide +kernel
theorem dX12_text_0 : decode cX12_text 0 = .ok (.aload_n 0, 1) := by decide +kernel
theorem dX12_text_1 : decode cX12_text 1 = .ok (.iconst 0, 1) := by decide +kernel
theorem dX12_text_2 : decode cX12_text 2 = .ok (.putfield 80, 3) := by decide +kernel
theorem dX12_text_5 : decode cX12_text 5 = .ok (.aload_n 0, 1) := by decide +kernel
theorem dX12_text_6 : decode cX12_text 6 = .ok (.iconst 0, 1) := by decide +kernel
theorem dX12_text_7 : decode cX12_text 7 = .ok (.putfield 93, 3) := by decide +kernel
theorem dX12_text_10 : decode cX12_text 10 = .ok (.aload_n 0, 1) := by decide +kernel
theorem dX12_text_11 : decode cX12_text 11 = .ok (.iconst 0, 1) := by decide +kernel
theorem dX12_text_12 : decode cX12_text 12 = .ok (.putfield 121, 3) := by decide +kernel
theorem dX12_text_15 : decode cX12_text 15 = .ok (.iconst 0, 1) := by decide +kernel
theorem dX12_text_16 : decode cX12_text 16 = .ok (.istore_n 1, 1) := by decide +kernel
theorem dX12_text_17 : decode cX12_text 17 = .ok (.iconst 0, 1) := by decide +kernel
theorem dX12_text_18 : decode cX12_text 18 = .ok (.istore_n 2, 1) := by decide +kernel
theorem dX12_text_19 : decode cX12_text 19 = .ok (.iload_n 2, 1) := by decide +kernel
theorem dX12_text_20 : decode cX12_text 20 = .ok (.bipush 8, 2) := by decide +kernel
theorem dX12_text_22 : decode cX12_text 22 = .ok (.if_icmp .ge 34, 3) := by decide +kernel
theorem dX12_text_25 : decode cX12_text 25 = .ok (.aload_n 0, 1) := by decide +kernel
theorem dX12_text_26 : decode cX12_text 26 = .ok (.getfield 13, 3) := by decide +kernel
theorem dX12_text_29 : decode cX12_text 29 = .ok (.iload_n 2, 1) := by decide +kernel
theorem dX12_text_30 : decode cX12_text 30 = .ok (.iload_n 2, 1) := by decide +kernel
theorem dX12_text_31 : decode cX12_text 31 = .ok (.ifCond .ne 7, 3) := by decide +kernel
theorem dX12_text_34 : decode cX12_text 34 = .ok (.iconst 4, 1) := by decide +kernel
theorem dX12_text_35 : decode cX12_text 35 = .ok (.goto 14, 3) := by decide +kernel
theorem dX12_text_38 : decode cX12_text 38 = .ok (.iload_n 2, 1) := by decide +kernel
theorem dX12_text_39 : decode cX12_text 39 = .ok (.iconst 2, 1) := by decide +kernel
theorem dX12_text_40 : decode cX12_text 40 = .ok (.irem, 1) := by decide +kernel
theorem dX12_text_41 : decode cX12_text 41 = .ok (.ifCond .ne 7, 3) := by decide +kernel
theorem dX12_text_44 : decode cX12_text 44 = .ok (.iconst 1, 1) := by decide +kernel
theorem dX12_text_45 : decode cX12_text 45 = .ok (.goto 4, 3) := by decide +kernel
theorem dX12_text_48 : decode cX12_text 48 = .ok (.iconst 0, 1) := by decide +kernel
theorem dX12_text_49 : decode cX12_text 49 = .ok (.iastore, 1) := by decide +kernel
theorem dX12_text_50 : decode cX12_text 50 = .ok (.iinc 2 1, 3) := by decide +kernel
theorem dX12_text_53 : decode cX12_text 53 = .ok (.goto (-34), 3) := by decide +kernel
theorem dX12_text_56 : decode cX12_text 56 = .ok (.aload_n 0, 1) := by decide +kernel
theorem dX12_text_57 : decode cX12_text 57 = .ok (.invokevirtual 118, 3) := by decide +kernel
theorem dX12_text_60 : decode cX12_text 60 = .ok (.aload_n 0, 1) := by decide +kernel
theorem dX12_text_61 : decode cX12_text 61 = .ok (.getfield 80, 3) := by decide +kernel
theorem dX12_text_64 : decode cX12_text 64 = .ok (.ifCond .ne 20, 3) := by decide +kernel
theorem dX12_text_67 : decode cX12_text 67 = .ok (.aload_n 0, 1) := by decide +kernel
theorem dX12_text_68 : decode cX12_text 68 = .ok (.getfield 99, 3) := by decide +kernel
theorem dX12_text_71 : decode cX12_text 71 = .ok (.ifCond .eq 13, 3) := by decide +kernel
theorem dX12_text_74 : decode cX12_text 74 = .ok (.aload_n 0, 1) := by decide +kernel
theorem dX12_text_75 : decode cX12_text 75 = .ok (.invokevirtual 127, 3) := by decide +kernel
theorem dX12_text_78 : decode cX12_text 78 = .ok (.iinc 1 1, 3) := by decide +kernel
theorem dX12_text_81 : decode cX12_text 81 = .ok (.goto (-21), 3) := by decide +kernel
theorem dX12_text_84 : decode cX12_text 84 = .ok (.aload_n 0, 1) := by decide +kernel
theorem dX12_text_85 : decode cX12_text 85 = .ok (.iconst 0, 1) := by decide +kernel
theorem dX12_text_86 : decode cX12_text 86 = .ok (.putfield 76, 3) := by decide +kernel
theorem dX12_text_89 : decode cX12_text 89 = .ok (.aload_n 0, 1) := by decide +kernel
theorem dX12_text_90 : decode cX12_text 90 = .ok (.aload_n 0, 1) := by decide +kernel
theorem dX12_text_91 : decode cX12_text 91 = .ok (.getfield 80, 3) := by decide +kernel
theorem dX12_text_94 : decode cX12_text 94 = .ok (.putfield 130, 3) := by decide +kernel
theorem dX12_text_97 : decode cX12_text 97 = .ok (.aload_n 0, 1) := by decide +kernel
theorem dX12_text_98 : decode cX12_text 98 = .ok (.getfield 80, 3) := by decide +kernel
theorem dX12_text_101 : decode cX12_text 101 = .ok (.ifCond .le 11, 3) := by decide +kernel
theorem dX12_text_104 : decode cX12_text 104 = .ok (.bipush (-10), 2) := by decide +kernel
theorem dX12_text_106 : decode cX12_text 106 = .ok (.aload_n 0, 1) := by decide +kernel
theorem dX12_text_107 : decode cX12_text 107 = .ok (.getfield 86, 3) := by decide +kernel
theorem dX12_text_110 : decode cX12_text 110 = .ok (.isub, 1) := by decide +kernel
theorem dX12_text_111 : decode cX12_text 111 = .ok (.ireturn, 1) := by decide +kernel
theorem dX12_text_112 : decode cX12_text 112 = .ok (.iconst 0, 1) := by decide +kernel
theorem dX12_text_113 : decode cX12_text 113 = .ok (.istore_n 2, 1) := by decide +kernel
theorem dX12_text_114 : decode cX12_text 114 = .ok (.iload_n 2, 1) := by decide +kernel
theorem dX12_text_115 : decode cX12_text 115 = .ok (.bipush 8, 2) := by decide +kernel
theorem dX12_text_117 : decode cX12_text 117 = .ok (.if_icmp .ge 21, 3) := by decide +kernel
theorem dX12_text_120 : decode cX12_text 120 = .ok (.aload_n 0, 1) := by decide +kernel
theorem dX12_text_121 : decode cX12_text 121 = .ok (.getfield 7, 3) := by decide +kernel
theorem dX12_text_124 : decode cX12_text 124 = .ok (.iload_n 2, 1) := by decide +kernel
theorem dX12_text_125 : decode cX12_text 125 = .ok (.aload_n 0, 1) := by decide +kernel
theorem dX12_text_126 : decode cX12_text 126 = .ok (.getfield 13, 3) := by decide +kernel
theorem dX12_text_129 : decode cX12_text 129 = .ok (.iload_n 2, 1) := by decide +kernel
theorem dX12_text_130 : decode cX12_text 130 = .ok (.iaload, 1) := by decide +kernel
theorem dX12_text_131 : decode cX12_text 131 = .ok (.iastore, 1) := by decide +kernel
theorem dX12_text_132 : decode cX12_text 132 = .ok (.iinc 2 1, 3) := by decide +kernel
theorem dX12_text_135 : decode cX12_text 135 = .ok (.goto (-21), 3) := by decide +kernel
theorem dX12_text_138 : decode cX12_text 138 = .ok (.iload_n 1, 1) := by decide +kernel
theorem dX12_text_139 : decode cX12_text 139 = .ok (.ireturn, 1) := by decide +kernel
theorem dX12_fault_0 : decode cX12_fault 0 = .ok (.aload_n 0, 1) := by decide +kernel
theorem dX12_fault_1 : decode cX12_fault 1 = .ok (.getfield 130, 3) := by decide +kernel
theorem dX12_fault_4 : decode cX12_fault 4 = .ok (.ireturn, 1) := by decide +kernel
theorem dX12_told_0 : decode cX12_told 0 = .ok (.iload_n 1, 1) := by decide +kernel
theorem dX12_told_1 : decode cX12_told 1 = .ok (.i2l, 1) := by decide +kernel
theorem dX12_told_2 : decode cX12_told 2 = .ok (.lconst 0, 1) := by decide +kernel
theorem dX12_told_3 : decode cX12_told 3 = .ok (.ldc2_w 133, 3) := by decide +kernel
theorem dX12_told_6 : decode cX12_told 6 = .ok (.invokestatic 72, 3) := by decide +kernel
theorem dX12_told_9 : decode cX12_told 9 = .ok (.ifCond .eq 12, 3) := by decide +kernel
theorem dX12_told_12 : decode cX12_told 12 = .ok (.aload_n 0, 1) := by decide +kernel
theorem dX12_told_13 : decode cX12_told 13 = .ok (.getfield 7, 3) := by decide +kernel
theorem dX12_told_16 : decode cX12_told 16 = .ok (.iload_n 1, 1) := by decide +kernel
theorem dX12_told_17 : decode cX12_told 17 = .ok (.iaload, 1) := by decide +kernel
theorem dX12_told_18 : decode cX12_told 18 = .ok (.goto 4, 3) := by decide +kernel
theorem dX12_told_21 : decode cX12_told 21 = .ok (.iconst (-1), 1) := by decide +kernel
theorem dX12_told_22 : decode cX12_told 22 = .ok (.ireturn, 1) := by decide +kernel
theorem dX12_has_0 : decode cX12_has 0 = .ok (.iload_n 1, 1) := by decide +kernel
theorem dX12_has_1 : decode cX12_has 1 = .ok (.iload_n 2, 1) := by decide +kernel
theorem dX12_has_2 : decode cX12_has 2 = .ok (.ishr, 1) := by decide +kernel
theorem dX12_has_3 : decode cX12_has 3 = .ok (.iconst 1, 1) := by decide +kernel
theorem dX12_has_4 : decode cX12_has 4 = .ok (.iand, 1) := by decide +kernel
theorem dX12_has_5 : decode cX12_has 5 = .ok (.iconst 1, 1) := by decide +kernel
theorem dX12_has_6 : decode cX12_has 6 = .ok (.if_icmp .ne 7, 3) := by decide +kernel
theorem dX12_has_9 : decode cX12_has 9 = .ok (.iconst 1, 1) := by decide +kernel
theorem dX12_has_10 : decode cX12_has 10 = .ok (.goto 4, 3) := by decide +kernel
theorem dX12_has_13 : decode cX12_has 13 = .ok (.iconst 0, 1) := by decide +kernel
theorem dX12_has_14 : decode cX12_has 14 = .ok (.ireturn, 1) := by decide +kernel
theorem dX12_gone_0 : decode cX12_gone 0 = .ok (.aload_n 0, 1) := by decide +kernel
theorem dX12_gone_1 : decode cX12_gone 1 = .ok (.iload_n 1, 1) := by decide +kernel
theorem dX12_gone_2 : decode cX12_gone 2 = .ok (.iload_n 2, 1) := by decide +kernel
theorem dX12_gone_3 : decode cX12_gone 3 = .ok (.invokevirtual 135, 3) := by decide +kernel
theorem dX12_gone_6 : decode cX12_gone 6 = .ok (.ifCond .eq 24, 3) := by decide +kernel
theorem dX12_gone_9 : decode cX12_gone 9 = .ok (.aload_n 0, 1) := by decide +kernel
theorem dX12_gone_10 : decode cX12_gone 10 = .ok (.iload_n 1, 1) := by decide +kernel
theorem dX12_gone_11 : decode cX12_gone 11 = .ok (.iload_n 3, 1) := by decide +kernel
theorem dX12_gone_12 : decode cX12_gone 12 = .ok (.invokevirtual 135, 3) := by decide +kernel
theorem dX12_gone_15 : decode cX12_gone 15 = .ok (.ifCond .ne 15, 3) := by decide +kernel
theorem dX12_gone_18 : decode cX12_gone 18 = .ok (.iload_n 1, 1) := by decide +kernel
theorem dX12_gone_19 : decode cX12_gone 19 = .ok (.iconst 1, 1) := by decide +kernel
theorem dX12_gone_20 : decode cX12_gone 20 = .ok (.iload_n 2, 1) := by decide +kernel
theorem dX12_gone_21 : decode cX12_gone 21 = .ok (.ishl, 1) := by decide +kernel
theorem dX12_gone_22 : decode cX12_gone 22 = .ok (.ixor, 1) := by decide +kernel
theorem dX12_gone_23 : decode cX12_gone 23 = .ok (.iconst 1, 1) := by decide +kernel
theorem dX12_gone_24 : decode cX12_gone 24 = .ok (.iload_n 3, 1) := by decide +kernel
theorem dX12_gone_25 : decode cX12_gone 25 = .ok (.ishl, 1) := by decide +kernel
theorem dX12_gone_26 : decode cX12_gone 26 = .ok (.ixor, 1) := by decide +kernel
theorem dX12_gone_27 : decode cX12_gone 27 = .ok (.goto 4, 3) := by decide +kernel
theorem dX12_gone_30 : decode cX12_gone 30 = .ok (.iload_n 1, 1) := by decide +kernel
theorem dX12_gone_31 : decode cX12_gone 31 = .ok (.ireturn, 1) := by decide +kernel
theorem dX12_rateOf_0 : decode cX12_rateOf 0 = .ok (.aload_n 0, 1) := by decide +kernel
theorem dX12_rateOf_1 : decode cX12_rateOf 1 = .ok (.invokevirtual 139, 3) := by decide +kernel
theorem dX12_rateOf_4 : decode cX12_rateOf 4 = .ok (.istore_n 3, 1) := by decide +kernel
theorem dX12_rateOf_5 : decode cX12_rateOf 5 = .ok (.iconst 0, 1) := by decide +kernel
theorem dX12_rateOf_6 : decode cX12_rateOf 6 = .ok (.istore 4, 2) := by decide +kernel
theorem dX12_rateOf_8 : decode cX12_rateOf 8 = .ok (.iconst 0, 1) := by decide +kernel
theorem dX12_rateOf_9 : decode cX12_rateOf 9 = .ok (.istore 5, 2) := by decide +kernel
theorem dX12_rateOf_11 : decode cX12_rateOf 11 = .ok (.iload 5, 2) := by decide +kernel
theorem dX12_rateOf_13 : decode cX12_rateOf 13 = .ok (.iload_n 3, 1) := by decide +kernel
theorem dX12_rateOf_14 : decode cX12_rateOf 14 = .ok (.if_icmp .ge 143, 3) := by decide +kernel
theorem dX12_rateOf_17 : decode cX12_rateOf 17 = .ok (.iload_n 1, 1) := by decide +kernel
theorem dX12_rateOf_18 : decode cX12_rateOf 18 = .ok (.iload_n 2, 1) := by decide +kernel
theorem dX12_rateOf_19 : decode cX12_rateOf 19 = .ok (.if_icmp .eq 138, 3) := by decide +kernel
theorem dX12_rateOf_22 : decode cX12_rateOf 22 = .ok (.iload 5, 2) := by decide +kernel
theorem dX12_rateOf_24 : decode cX12_rateOf 24 = .ok (.iconst 1, 1) := by decide +kernel
theorem dX12_rateOf_25 : decode cX12_rateOf 25 = .ok (.iadd, 1) := by decide +kernel
theorem dX12_rateOf_26 : decode cX12_rateOf 26 = .ok (.iload_n 3, 1) := by decide +kernel
theorem dX12_rateOf_27 : decode cX12_rateOf 27 = .ok (.if_icmp .ge 10, 3) := by decide +kernel
theorem dX12_rateOf_30 : decode cX12_rateOf 30 = .ok (.iload 5, 2) := by decide +kernel
theorem dX12_rateOf_32 : decode cX12_rateOf 32 = .ok (.iconst 1, 1) := by decide +kernel
theorem dX12_rateOf_33 : decode cX12_rateOf 33 = .ok (.iadd, 1) := by decide +kernel
theorem dX12_rateOf_34 : decode cX12_rateOf 34 = .ok (.goto 16, 3) := by decide +kernel
theorem dX12_rateOf_37 : decode cX12_rateOf 37 = .ok (.aload_n 0, 1) := by decide +kernel
theorem dX12_rateOf_38 : decode cX12_rateOf 38 = .ok (.invokevirtual 142, 3) := by decide +kernel
theorem dX12_rateOf_41 : decode cX12_rateOf 41 = .ok (.ifCond .eq 8, 3) := by decide +kernel
theorem dX12_rateOf_44 : decode cX12_rateOf 44 = .ok (.bipush (-4), 2) := by decide +kernel
theorem dX12_rateOf_46 : decode cX12_rateOf 46 = .ok (.goto 4, 3) := by decide +kernel
theorem dX12_rateOf_49 : decode cX12_rateOf 49 = .ok (.iconst 0, 1) := by decide +kernel
theorem dX12_rateOf_50 : decode cX12_rateOf 50 = .ok (.istore 6, 2) := by decide +kernel
theorem dX12_rateOf_52 : decode cX12_rateOf 52 = .ok (.iload 5, 2) := by decide +kernel
theorem dX12_rateOf_54 : decode cX12_rateOf 54 = .ok (.ifCond .le 10, 3) := by decide +kernel
theorem dX12_rateOf_57 : decode cX12_rateOf 57 = .ok (.iload 5, 2) := by decide +kernel
theorem dX12_rateOf_59 : decode cX12_rateOf 59 = .ok (.iconst 1, 1) := by decide +kernel
theorem dX12_rateOf_60 : decode cX12_rateOf 60 = .ok (.isub, 1) := by decide +kernel
theorem dX12_rateOf_61 : decode cX12_rateOf 61 = .ok (.goto 18, 3) := by decide +kernel
theorem dX12_rateOf_64 : decode cX12_rateOf 64 = .ok (.aload_n 0, 1) := by decide +kernel
theorem dX12_rateOf_65 : decode cX12_rateOf 65 = .ok (.invokevirtual 142, 3) := by decide +kernel
theorem dX12_rateOf_68 : decode cX12_rateOf 68 = .ok (.ifCond .eq 8, 3) := by decide +kernel
theorem dX12_rateOf_71 : decode cX12_rateOf 71 = .ok (.bipush (-4), 2) := by decide +kernel
theorem dX12_rateOf_73 : decode cX12_rateOf 73 = .ok (.goto 6, 3) := by decide +kernel
theorem dX12_rateOf_76 : decode cX12_rateOf 76 = .ok (.iload_n 3, 1) := by decide +kernel
theorem dX12_rateOf_77 : decode cX12_rateOf 77 = .ok (.iconst 1, 1) := by decide +kernel
theorem dX12_rateOf_78 : decode cX12_rateOf 78 = .ok (.isub, 1) := by decide +kernel
theorem dX12_rateOf_79 : decode cX12_rateOf 79 = .ok (.istore 7, 2) := by decide +kernel
theorem dX12_rateOf_81 : decode cX12_rateOf 81 = .ok (.iload 4, 2) := by decide +kernel
theorem dX12_rateOf_83 : decode cX12_rateOf 83 = .ok (.iload 6, 2) := by decide +kernel
theorem dX12_rateOf_85 : decode cX12_rateOf 85 = .ok (.bipush (-4), 2) := by decide +kernel
theorem dX12_rateOf_87 : decode cX12_rateOf 87 = .ok (.if_icmp .eq 25, 3) := by decide +kernel
theorem dX12_rateOf_90 : decode cX12_rateOf 90 = .ok (.aload_n 0, 1) := by decide +kernel
theorem dX12_rateOf_91 : decode cX12_rateOf 91 = .ok (.iload_n 1, 1) := by decide +kernel
theorem dX12_rateOf_92 : decode cX12_rateOf 92 = .ok (.iload 5, 2) := by decide +kernel
theorem dX12_rateOf_94 : decode cX12_rateOf 94 = .ok (.iload 6, 2) := by decide +kernel
theorem dX12_rateOf_96 : decode cX12_rateOf 96 = .ok (.invokevirtual 146, 3) := by decide +kernel
theorem dX12_rateOf_99 : decode cX12_rateOf 99 = .ok (.iload_n 2, 1) := by decide +kernel
theorem dX12_rateOf_100 : decode cX12_rateOf 100 = .ok (.if_icmp .ne 12, 3) := by decide +kernel
theorem dX12_rateOf_103 : decode cX12_rateOf 103 = .ok (.aload_n 0, 1) := by decide +kernel
theorem dX12_rateOf_104 : decode cX12_rateOf 104 = .ok (.getfield 7, 3) := by decide +kernel
theorem dX12_rateOf_107 : decode cX12_rateOf 107 = .ok (.iconst 2, 1) := by decide +kernel
theorem dX12_rateOf_108 : decode cX12_rateOf 108 = .ok (.iaload, 1) := by decide +kernel
theorem dX12_rateOf_109 : decode cX12_rateOf 109 = .ok (.goto 4, 3) := by decide +kernel
theorem dX12_rateOf_112 : decode cX12_rateOf 112 = .ok (.iconst 0, 1) := by decide +kernel
theorem dX12_rateOf_113 : decode cX12_rateOf 113 = .ok (.iadd, 1) := by decide +kernel
theorem dX12_rateOf_114 : decode cX12_rateOf 114 = .ok (.istore 4, 2) := by decide +kernel
theorem dX12_rateOf_116 : decode cX12_rateOf 116 = .ok (.iload 4, 2) := by decide +kernel
theorem dX12_rateOf_118 : decode cX12_rateOf 118 = .ok (.iload 7, 2) := by decide +kernel
theorem dX12_rateOf_120 : decode cX12_rateOf 120 = .ok (.bipush (-4), 2) := by decide +kernel
theorem dX12_rateOf_122 : decode cX12_rateOf 122 = .ok (.if_icmp .eq 25, 3) := by decide +kernel
theorem dX12_rateOf_125 : decode cX12_rateOf 125 = .ok (.aload_n 0, 1) := by decide +kernel
theorem dX12_rateOf_126 : decode cX12_rateOf 126 = .ok (.iload_n 1, 1) := by decide +kernel
theorem dX12_rateOf_127 : decode cX12_rateOf 127 = .ok (.iload 5, 2) := by decide +kernel
theorem dX12_rateOf_129 : decode cX12_rateOf 129 = .ok (.iload 7, 2) := by decide +kernel
theorem dX12_rateOf_131 : decode cX12_rateOf 131 = .ok (.invokevirtual 146, 3) := by decide +kernel
theorem dX12_rateOf_134 : decode cX12_rateOf 134 = .ok (.iload_n 2, 1) := by decide +kernel
theorem dX12_rateOf_135 : decode cX12_rateOf 135 = .ok (.if_icmp .ne 12, 3) := by decide +kernel
theorem dX12_rateOf_138 : decode cX12_rateOf 138 = .ok (.aload_n 0, 1) := by decide +kernel
theorem dX12_rateOf_139 : decode cX12_rateOf 139 = .ok (.getfield 7, 3) := by decide +kernel
theorem dX12_rateOf_142 : decode cX12_rateOf 142 = .ok (.iconst 3, 1) := by decide +kernel
theorem dX12_rateOf_143 : decode cX12_rateOf 143 = .ok (.iaload, 1) := by decide +kernel
theorem dX12_rateOf_144 : decode cX12_rateOf 144 = .ok (.goto 4, 3) := by decide +kernel
theorem dX12_rateOf_147 : decode cX12_rateOf 147 = .ok (.iconst 0, 1) := by decide +kernel
theorem dX12_rateOf_148 : decode cX12_rateOf 148 = .ok (.iadd, 1) := by decide +kernel
theorem dX12_rateOf_149 : decode cX12_rateOf 149 = .ok (.istore 4, 2) := by decide +kernel
theorem dX12_rateOf_151 : decode cX12_rateOf 151 = .ok (.iinc 5 1, 3) := by decide +kernel
theorem dX12_rateOf_154 : decode cX12_rateOf 154 = .ok (.goto (-143), 3) := by decide +kernel
theorem dX12_rateOf_157 : decode cX12_rateOf 157 = .ok (.aload_n 0, 1) := by decide +kernel
theorem dX12_rateOf_158 : decode cX12_rateOf 158 = .ok (.invokevirtual 142, 3) := by decide +kernel
theorem dX12_rateOf_161 : decode cX12_rateOf 161 = .ok (.ifCond .eq 104, 3) := by decide +kernel
theorem dX12_rateOf_164 : decode cX12_rateOf 164 = .ok (.iload_n 1, 1) := by decide +kernel
theorem dX12_rateOf_165 : decode cX12_rateOf 165 = .ok (.iload_n 2, 1) := by decide +kernel
theorem dX12_rateOf_166 : decode cX12_rateOf 166 = .ok (.if_icmp .eq 99, 3) := by decide +kernel
theorem dX12_rateOf_169 : decode cX12_rateOf 169 = .ok (.iload_n 1, 1) := by decide +kernel
theorem dX12_rateOf_170 : decode cX12_rateOf 170 = .ok (.iconst 1, 1) := by decide +kernel
theorem dX12_rateOf_171 : decode cX12_rateOf 171 = .ok (.ixor, 1) := by decide +kernel
theorem dX12_rateOf_172 : decode cX12_rateOf 172 = .ok (.istore 5, 2) := by decide +kernel
theorem dX12_rateOf_174 : decode cX12_rateOf 174 = .ok (.iload_n 1, 1) := by decide +kernel
theorem dX12_rateOf_175 : decode cX12_rateOf 175 = .ok (.iconst 1, 1) := by decide +kernel
theorem dX12_rateOf_176 : decode cX12_rateOf 176 = .ok (.iload_n 3, 1) := by decide +kernel
theorem dX12_rateOf_177 : decode cX12_rateOf 177 = .ok (.iconst 1, 1) := by decide +kernel
theorem dX12_rateOf_178 : decode cX12_rateOf 178 = .ok (.isub, 1) := by decide +kernel
theorem dX12_rateOf_179 : decode cX12_rateOf 179 = .ok (.ishl, 1) := by decide +kernel
theorem dX12_rateOf_180 : decode cX12_rateOf 180 = .ok (.ixor, 1) := by decide +kernel
theorem dX12_rateOf_181 : decode cX12_rateOf 181 = .ok (.istore 6, 2) := by decide +kernel
theorem dX12_rateOf_183 : decode cX12_rateOf 183 = .ok (.iload 4, 2) := by decide +kernel
theorem dX12_rateOf_185 : decode cX12_rateOf 185 = .ok (.iload 5, 2) := by decide +kernel
theorem dX12_rateOf_187 : decode cX12_rateOf 187 = .ok (.iload_n 2, 1) := by decide +kernel
theorem dX12_rateOf_188 : decode cX12_rateOf 188 = .ok (.if_icmp .ne 31, 3) := by decide +kernel
theorem dX12_rateOf_191 : decode cX12_rateOf 191 = .ok (.aload_n 0, 1) := by decide +kernel
theorem dX12_rateOf_192 : decode cX12_rateOf 192 = .ok (.iload_n 1, 1) := by decide +kernel
theorem dX12_rateOf_193 : decode cX12_rateOf 193 = .ok (.iconst 0, 1) := by decide +kernel
theorem dX12_rateOf_194 : decode cX12_rateOf 194 = .ok (.invokevirtual 135, 3) := by decide +kernel
theorem dX12_rateOf_197 : decode cX12_rateOf 197 = .ok (.ifCond .eq 13, 3) := by decide +kernel
theorem dX12_rateOf_200 : decode cX12_rateOf 200 = .ok (.aload_n 0, 1) := by decide +kernel
theorem dX12_rateOf_201 : decode cX12_rateOf 201 = .ok (.getfield 7, 3) := by decide +kernel
theorem dX12_rateOf_204 : decode cX12_rateOf 204 = .ok (.bipush 7, 2) := by decide +kernel
theorem dX12_rateOf_206 : decode cX12_rateOf 206 = .ok (.iaload, 1) := by decide +kernel
theorem dX12_rateOf_207 : decode cX12_rateOf 207 = .ok (.goto 13, 3) := by decide +kernel
theorem dX12_rateOf_210 : decode cX12_rateOf 210 = .ok (.aload_n 0, 1) := by decide +kernel
theorem dX12_rateOf_211 : decode cX12_rateOf 211 = .ok (.getfield 7, 3) := by decide +kernel
theorem dX12_rateOf_214 : decode cX12_rateOf 214 = .ok (.iconst 4, 1) := by decide +kernel
theorem dX12_rateOf_215 : decode cX12_rateOf 215 = .ok (.iaload, 1) := by decide +kernel
theorem dX12_rateOf_216 : decode cX12_rateOf 216 = .ok (.goto 4, 3) := by decide +kernel
theorem dX12_rateOf_219 : decode cX12_rateOf 219 = .ok (.iconst 0, 1) := by decide +kernel
theorem dX12_rateOf_220 : decode cX12_rateOf 220 = .ok (.iadd, 1) := by decide +kernel
theorem dX12_rateOf_221 : decode cX12_rateOf 221 = .ok (.istore 4, 2) := by decide +kernel
theorem dX12_rateOf_223 : decode cX12_rateOf 223 = .ok (.iload 4, 2) := by decide +kernel
theorem dX12_rateOf_225 : decode cX12_rateOf 225 = .ok (.iload 6, 2) := by decide +kernel
theorem dX12_rateOf_227 : decode cX12_rateOf 227 = .ok (.iload_n 2, 1) := by decide +kernel
theorem dX12_rateOf_228 : decode cX12_rateOf 228 = .ok (.if_icmp .ne 33, 3) := by decide +kernel
theorem dX12_rateOf_231 : decode cX12_rateOf 231 = .ok (.aload_n 0, 1) := by decide +kernel
theorem dX12_rateOf_232 : decode cX12_rateOf 232 = .ok (.iload_n 1, 1) := by decide +kernel
theorem dX12_rateOf_233 : decode cX12_rateOf 233 = .ok (.iload_n 3, 1) := by decide +kernel
theorem dX12_rateOf_234 : decode cX12_rateOf 234 = .ok (.iconst 1, 1) := by decide +kernel
theorem dX12_rateOf_235 : decode cX12_rateOf 235 = .ok (.isub, 1) := by decide +kernel
theorem dX12_rateOf_236 : decode cX12_rateOf 236 = .ok (.invokevirtual 135, 3) := by decide +kernel
theorem dX12_rateOf_239 : decode cX12_rateOf 239 = .ok (.ifCond .eq 13, 3) := by decide +kernel
theorem dX12_rateOf_242 : decode cX12_rateOf 242 = .ok (.aload_n 0, 1) := by decide +kernel
theorem dX12_rateOf_243 : decode cX12_rateOf 243 = .ok (.getfield 7, 3) := by decide +kernel
theorem dX12_rateOf_246 : decode cX12_rateOf 246 = .ok (.bipush 6, 2) := by decide +kernel
theorem dX12_rateOf_248 : decode cX12_rateOf 248 = .ok (.iaload, 1) := by decide +kernel
theorem dX12_rateOf_249 : decode cX12_rateOf 249 = .ok (.goto 13, 3) := by decide +kernel
theorem dX12_rateOf_252 : decode cX12_rateOf 252 = .ok (.aload_n 0, 1) := by decide +kernel
theorem dX12_rateOf_253 : decode cX12_rateOf 253 = .ok (.getfield 7, 3) := by decide +kernel
theorem dX12_rateOf_256 : decode cX12_rateOf 256 = .ok (.iconst 5, 1) := by decide +kernel
theorem dX12_rateOf_257 : decode cX12_rateOf 257 = .ok (.iaload, 1) := by decide +kernel
theorem dX12_rateOf_258 : decode cX12_rateOf 258 = .ok (.goto 4, 3) := by decide +kernel
theorem dX12_rateOf_261 : decode cX12_rateOf 261 = .ok (.iconst 0, 1) := by decide +kernel
theorem dX12_rateOf_262 : decode cX12_rateOf 262 = .ok (.iadd, 1) := by decide +kernel
theorem dX12_rateOf_263 : decode cX12_rateOf 263 = .ok (.istore 4, 2) := by decide +kernel
theorem dX12_rateOf_265 : decode cX12_rateOf 265 = .ok (.iload 4, 2) := by decide +kernel
theorem dX12_rateOf_267 : decode cX12_rateOf 267 = .ok (.ireturn, 1) := by decide +kernel
theorem dX12_rate_0 : decode cX12_rate 0 = .ok (.aload_n 0, 1) := by decide +kernel
theorem dX12_rate_1 : decode cX12_rate 1 = .ok (.iload_n 1, 1) := by decide +kernel
theorem dX12_rate_2 : decode cX12_rate 2 = .ok (.invokevirtual 150, 3) := by decide +kernel
theorem dX12_rate_5 : decode cX12_rate 5 = .ok (.ifCond .eq 20, 3) := by decide +kernel
theorem dX12_rate_8 : decode cX12_rate 8 = .ok (.aload_n 0, 1) := by decide +kernel
theorem dX12_rate_9 : decode cX12_rate 9 = .ok (.iload_n 2, 1) := by decide +kernel
theorem dX12_rate_10 : decode cX12_rate 10 = .ok (.invokevirtual 150, 3) := by decide +kernel
theorem dX12_rate_13 : decode cX12_rate 13 = .ok (.ifCond .eq 12, 3) := by decide +kernel
theorem dX12_rate_16 : decode cX12_rate 16 = .ok (.aload_n 0, 1) := by decide +kernel
theorem dX12_rate_17 : decode cX12_rate 17 = .ok (.iload_n 1, 1) := by decide +kernel
theorem dX12_rate_18 : decode cX12_rate 18 = .ok (.iload_n 2, 1) := by decide +kernel
theorem dX12_rate_19 : decode cX12_rate 19 = .ok (.invokevirtual 154, 3) := by decide +kernel
theorem dX12_rate_22 : decode cX12_rate 22 = .ok (.goto 4, 3) := by decide +kernel
theorem dX12_rate_25 : decode cX12_rate 25 = .ok (.iconst (-1), 1) := by decide +kernel
theorem dX12_rate_26 : decode cX12_rate 26 = .ok (.ireturn, 1) := by decide +kernel
theorem dX12_layReaches_0 : decode cX12_layReaches 0 = .ok (.aload_n 0, 1) := by decide +kernel
theorem dX12_layReaches_1 : decode cX12_layReaches 1 = .ok (.invokevirtual 68, 3) := by decide +kernel
theorem dX12_layReaches_4 : decode cX12_layReaches 4 = .ok (.istore_n 1, 1) := by decide +kernel
theorem dX12_layReaches_5 : decode cX12_layReaches 5 = .ok (.iconst 0, 1) := by decide +kernel
theorem dX12_layReaches_6 : decode cX12_layReaches 6 = .ok (.istore_n 2, 1) := by decide +kernel
theorem dX12_layReaches_7 : decode cX12_layReaches 7 = .ok (.iload_n 2, 1) := by decide +kernel
theorem dX12_layReaches_8 : decode cX12_layReaches 8 = .ok (.iload_n 1, 1) := by decide +kernel
theorem dX12_layReaches_9 : decode cX12_layReaches 9 = .ok (.if_icmp .ge 56, 3) := by decide +kernel
theorem dX12_layReaches_12 : decode cX12_layReaches 12 = .ok (.aload_n 0, 1) := by decide +kernel
theorem dX12_layReaches_13 : decode cX12_layReaches 13 = .ok (.getfield 25, 3) := by decide +kernel
theorem dX12_layReaches_16 : decode cX12_layReaches 16 = .ok (.iload_n 2, 1) := by decide +kernel
theorem dX12_layReaches_17 : decode cX12_layReaches 17 = .ok (.lconst 1, 1) := by decide +kernel
theorem dX12_layReaches_18 : decode cX12_layReaches 18 = .ok (.iload_n 2, 1) := by decide +kernel
theorem dX12_layReaches_19 : decode cX12_layReaches 19 = .ok (.lshl, 1) := by decide +kernel
theorem dX12_layReaches_20 : decode cX12_layReaches 20 = .ok (.lastore, 1) := by decide +kernel
theorem dX12_layReaches_21 : decode cX12_layReaches 21 = .ok (.iconst 0, 1) := by decide +kernel
theorem dX12_layReaches_22 : decode cX12_layReaches 22 = .ok (.istore_n 3, 1) := by decide +kernel
theorem dX12_layReaches_23 : decode cX12_layReaches 23 = .ok (.iload_n 3, 1) := by decide +kernel
theorem dX12_layReaches_24 : decode cX12_layReaches 24 = .ok (.iload_n 1, 1) := by decide +kernel
theorem dX12_layReaches_25 : decode cX12_layReaches 25 = .ok (.if_icmp .ge 34, 3) := by decide +kernel
theorem dX12_layReaches_28 : decode cX12_layReaches 28 = .ok (.aload_n 0, 1) := by decide +kernel
theorem dX12_layReaches_29 : decode cX12_layReaches 29 = .ok (.getfield 25, 3) := by decide +kernel
theorem dX12_layReaches_32 : decode cX12_layReaches 32 = .ok (.iload_n 2, 1) := by decide +kernel
theorem dX12_layReaches_33 : decode cX12_layReaches 33 = .ok (.dup2, 1) := by decide +kernel
theorem dX12_layReaches_34 : decode cX12_layReaches 34 = .ok (.laload, 1) := by decide +kernel
theorem dX12_layReaches_35 : decode cX12_layReaches 35 = .ok (.aload_n 0, 1) := by decide +kernel
theorem dX12_layReaches_36 : decode cX12_layReaches 36 = .ok (.iload_n 2, 1) := by decide +kernel
theorem dX12_layReaches_37 : decode cX12_layReaches 37 = .ok (.iload_n 3, 1) := by decide +kernel
theorem dX12_layReaches_38 : decode cX12_layReaches 38 = .ok (.invokevirtual 154, 3) := by decide +kernel
theorem dX12_layReaches_41 : decode cX12_layReaches 41 = .ok (.ifCond .le 9, 3) := by decide +kernel
theorem dX12_layReaches_44 : decode cX12_layReaches 44 = .ok (.lconst 1, 1) := by decide +kernel
theorem dX12_layReaches_45 : decode cX12_layReaches 45 = .ok (.iload_n 3, 1) := by decide +kernel
theorem dX12_layReaches_46 : decode cX12_layReaches 46 = .ok (.lshl, 1) := by decide +kernel
theorem dX12_layReaches_47 : decode cX12_layReaches 47 = .ok (.goto 4, 3) := by decide +kernel
theorem dX12_layReaches_50 : decode cX12_layReaches 50 = .ok (.lconst 0, 1) := by decide +kernel
theorem dX12_layReaches_51 : decode cX12_layReaches 51 = .ok (.lor, 1) := by decide +kernel
theorem dX12_layReaches_52 : decode cX12_layReaches 52 = .ok (.lastore, 1) := by decide +kernel
theorem dX12_layReaches_53 : decode cX12_layReaches 53 = .ok (.iinc 3 1, 3) := by decide +kernel
theorem dX12_layReaches_56 : decode cX12_layReaches 56 = .ok (.goto (-33), 3) := by decide +kernel
theorem dX12_layReaches_59 : decode cX12_layReaches 59 = .ok (.iinc 2 1, 3) := by decide +kernel
theorem dX12_layReaches_62 : decode cX12_layReaches 62 = .ok (.goto (-55), 3) := by decide +kernel
theorem dX12_layReaches_65 : decode cX12_layReaches 65 = .ok (.iconst 0, 1) := by decide +kernel
theorem dX12_layReaches_66 : decode cX12_layReaches 66 = .ok (.istore_n 2, 1) := by decide +kernel
theorem dX12_layReaches_67 : decode cX12_layReaches 67 = .ok (.iload_n 2, 1) := by decide +kernel
theorem dX12_layReaches_68 : decode cX12_layReaches 68 = .ok (.iload_n 1, 1) := by decide +kernel
theorem dX12_layReaches_69 : decode cX12_layReaches 69 = .ok (.if_icmp .ge 56, 3) := by decide +kernel
theorem dX12_layReaches_72 : decode cX12_layReaches 72 = .ok (.iconst 0, 1) := by decide +kernel
theorem dX12_layReaches_73 : decode cX12_layReaches 73 = .ok (.istore_n 3, 1) := by decide +kernel
theorem dX12_layReaches_74 : decode cX12_layReaches 74 = .ok (.iload_n 3, 1) := by decide +kernel
theorem dX12_layReaches_75 : decode cX12_layReaches 75 = .ok (.iload_n 1, 1) := by decide +kernel
theorem dX12_layReaches_76 : decode cX12_layReaches 76 = .ok (.if_icmp .ge 43, 3) := by decide +kernel
theorem dX12_layReaches_79 : decode cX12_layReaches 79 = .ok (.aload_n 0, 1) := by decide +kernel
theorem dX12_layReaches_80 : decode cX12_layReaches 80 = .ok (.getfield 25, 3) := by decide +kernel
theorem dX12_layReaches_83 : decode cX12_layReaches 83 = .ok (.iload_n 3, 1) := by decide +kernel
theorem dX12_layReaches_84 : decode cX12_layReaches 84 = .ok (.dup2, 1) := by decide +kernel
theorem dX12_layReaches_85 : decode cX12_layReaches 85 = .ok (.laload, 1) := by decide +kernel
theorem dX12_layReaches_86 : decode cX12_layReaches 86 = .ok (.aload_n 0, 1) := by decide +kernel
theorem dX12_layReaches_87 : decode cX12_layReaches 87 = .ok (.getfield 25, 3) := by decide +kernel
theorem dX12_layReaches_90 : decode cX12_layReaches 90 = .ok (.iload_n 3, 1) := by decide +kernel
theorem dX12_layReaches_91 : decode cX12_layReaches 91 = .ok (.laload, 1) := by decide +kernel
theorem dX12_layReaches_92 : decode cX12_layReaches 92 = .ok (.iload_n 2, 1) := by decide +kernel
theorem dX12_layReaches_93 : decode cX12_layReaches 93 = .ok (.lshr, 1) := by decide +kernel
theorem dX12_layReaches_94 : decode cX12_layReaches 94 = .ok (.lconst 1, 1) := by decide +kernel
theorem dX12_layReaches_95 : decode cX12_layReaches 95 = .ok (.land, 1) := by decide +kernel
theorem dX12_layReaches_96 : decode cX12_layReaches 96 = .ok (.lconst 1, 1) := by decide +kernel
theorem dX12_layReaches_97 : decode cX12_layReaches 97 = .ok (.lcmp, 1) := by decide +kernel
theorem dX12_layReaches_98 : decode cX12_layReaches 98 = .ok (.ifCond .ne 12, 3) := by decide +kernel
theorem dX12_layReaches_101 : decode cX12_layReaches 101 = .ok (.aload_n 0, 1) := by decide +kernel
theorem dX12_layReaches_102 : decode cX12_layReaches 102 = .ok (.getfield 25, 3) := by decide +kernel
theorem dX12_layReaches_105 : decode cX12_layReaches 105 = .ok (.iload_n 2, 1) := by decide +kernel
theorem dX12_layReaches_106 : decode cX12_layReaches 106 = .ok (.laload, 1) := by decide +kernel
theorem dX12_layReaches_107 : decode cX12_layReaches 107 = .ok (.goto 4, 3) := by decide +kernel
theorem dX12_layReaches_110 : decode cX12_layReaches 110 = .ok (.lconst 0, 1) := by decide +kernel
theorem dX12_layReaches_111 : decode cX12_layReaches 111 = .ok (.lor, 1) := by decide +kernel
theorem dX12_layReaches_112 : decode cX12_layReaches 112 = .ok (.lastore, 1) := by decide +kernel
theorem dX12_layReaches_113 : decode cX12_layReaches 113 = .ok (.iinc 3 1, 3) := by decide +kernel
theorem dX12_layReaches_116 : decode cX12_layReaches 116 = .ok (.goto (-42), 3) := by decide +kernel
theorem dX12_layReaches_119 : decode cX12_layReaches 119 = .ok (.iinc 2 1, 3) := by decide +kernel
theorem dX12_layReaches_122 : decode cX12_layReaches 122 = .ok (.goto (-55), 3) := by decide +kernel
theorem dX12_layReaches_125 : decode cX12_layReaches 125 = .ok (.return_, 1) := by decide +kernel
theorem dX12_partOf_0 : decode cX12_partOf 0 = .ok (.lconst 0, 1) := by decide +kernel
theorem dX12_partOf_1 : decode cX12_partOf 1 = .ok (.lstore_n 2, 1) := by decide +kernel
theorem dX12_partOf_2 : decode cX12_partOf 2 = .ok (.iconst 0, 1) := by decide +kernel
theorem dX12_partOf_3 : decode cX12_partOf 3 = .ok (.istore 4, 2) := by decide +kernel
theorem dX12_partOf_5 : decode cX12_partOf 5 = .ok (.iload 4, 2) := by decide +kernel
theorem dX12_partOf_7 : decode cX12_partOf 7 = .ok (.aload_n 0, 1) := by decide +kernel
theorem dX12_partOf_8 : decode cX12_partOf 8 = .ok (.invokevirtual 68, 3) := by decide +kernel
theorem dX12_partOf_11 : decode cX12_partOf 11 = .ok (.if_icmp .ge 52, 3) := by decide +kernel
theorem dX12_partOf_14 : decode cX12_partOf 14 = .ok (.lload_n 2, 1) := by decide +kernel
theorem dX12_partOf_15 : decode cX12_partOf 15 = .ok (.aload_n 0, 1) := by decide +kernel
theorem dX12_partOf_16 : decode cX12_partOf 16 = .ok (.getfield 25, 3) := by decide +kernel
theorem dX12_partOf_19 : decode cX12_partOf 19 = .ok (.iload_n 1, 1) := by decide +kernel
theorem dX12_partOf_20 : decode cX12_partOf 20 = .ok (.laload, 1) := by decide +kernel
theorem dX12_partOf_21 : decode cX12_partOf 21 = .ok (.iload 4, 2) := by decide +kernel
theorem dX12_partOf_23 : decode cX12_partOf 23 = .ok (.lshr, 1) := by decide +kernel
theorem dX12_partOf_24 : decode cX12_partOf 24 = .ok (.lconst 1, 1) := by decide +kernel
theorem dX12_partOf_25 : decode cX12_partOf 25 = .ok (.land, 1) := by decide +kernel
theorem dX12_partOf_26 : decode cX12_partOf 26 = .ok (.lconst 1, 1) := by decide +kernel
theorem dX12_partOf_27 : decode cX12_partOf 27 = .ok (.lcmp, 1) := by decide +kernel
theorem dX12_partOf_28 : decode cX12_partOf 28 = .ok (.ifCond .ne 26, 3) := by decide +kernel
theorem dX12_partOf_31 : decode cX12_partOf 31 = .ok (.aload_n 0, 1) := by decide +kernel
theorem dX12_partOf_32 : decode cX12_partOf 32 = .ok (.getfield 25, 3) := by decide +kernel
theorem dX12_partOf_35 : decode cX12_partOf 35 = .ok (.iload 4, 2) := by decide +kernel
theorem dX12_partOf_37 : decode cX12_partOf 37 = .ok (.laload, 1) := by decide +kernel
theorem dX12_partOf_38 : decode cX12_partOf 38 = .ok (.iload_n 1, 1) := by decide +kernel
theorem dX12_partOf_39 : decode cX12_partOf 39 = .ok (.lshr, 1) := by decide +kernel
theorem dX12_partOf_40 : decode cX12_partOf 40 = .ok (.lconst 1, 1) := by decide +kernel
theorem dX12_partOf_41 : decode cX12_partOf 41 = .ok (.land, 1) := by decide +kernel
theorem dX12_partOf_42 : decode cX12_partOf 42 = .ok (.lconst 1, 1) := by decide +kernel
theorem dX12_partOf_43 : decode cX12_partOf 43 = .ok (.lcmp, 1) := by decide +kernel
theorem dX12_partOf_44 : decode cX12_partOf 44 = .ok (.ifCond .ne 10, 3) := by decide +kernel
theorem dX12_partOf_47 : decode cX12_partOf 47 = .ok (.lconst 1, 1) := by decide +kernel
theorem dX12_partOf_48 : decode cX12_partOf 48 = .ok (.iload 4, 2) := by decide +kernel
theorem dX12_partOf_50 : decode cX12_partOf 50 = .ok (.lshl, 1) := by decide +kernel
theorem dX12_partOf_51 : decode cX12_partOf 51 = .ok (.goto 4, 3) := by decide +kernel
theorem dX12_partOf_54 : decode cX12_partOf 54 = .ok (.lconst 0, 1) := by decide +kernel
theorem dX12_partOf_55 : decode cX12_partOf 55 = .ok (.lor, 1) := by decide +kernel
theorem dX12_partOf_56 : decode cX12_partOf 56 = .ok (.lstore_n 2, 1) := by decide +kernel
theorem dX12_partOf_57 : decode cX12_partOf 57 = .ok (.iinc 4 1, 3) := by decide +kernel
theorem dX12_partOf_60 : decode cX12_partOf 60 = .ok (.goto (-55), 3) := by decide +kernel
theorem dX12_partOf_63 : decode cX12_partOf 63 = .ok (.lload_n 2, 1) := by decide +kernel
theorem dX12_partOf_64 : decode cX12_partOf 64 = .ok (.lreturn, 1) := by decide +kernel
theorem dX12_isShut_0 : decode cX12_isShut 0 = .ok (.aload_n 0, 1) := by decide +kernel
theorem dX12_isShut_1 : decode cX12_isShut 1 = .ok (.getfield 25, 3) := by decide +kernel
theorem dX12_isShut_4 : decode cX12_isShut 4 = .ok (.iload_n 1, 1) := by decide +kernel
theorem dX12_isShut_5 : decode cX12_isShut 5 = .ok (.laload, 1) := by decide +kernel
theorem dX12_isShut_6 : decode cX12_isShut 6 = .ok (.aload_n 0, 1) := by decide +kernel
theorem dX12_isShut_7 : decode cX12_isShut 7 = .ok (.iload_n 1, 1) := by decide +kernel
theorem dX12_isShut_8 : decode cX12_isShut 8 = .ok (.invokevirtual 157, 3) := by decide +kernel
theorem dX12_isShut_11 : decode cX12_isShut 11 = .ok (.lcmp, 1) := by decide +kernel
theorem dX12_isShut_12 : decode cX12_isShut 12 = .ok (.ifCond .ne 7, 3) := by decide +kernel
theorem dX12_isShut_15 : decode cX12_isShut 15 = .ok (.iconst 1, 1) := by decide +kernel
theorem dX12_isShut_16 : decode cX12_isShut 16 = .ok (.goto 4, 3) := by decide +kernel
theorem dX12_isShut_19 : decode cX12_isShut 19 = .ok (.iconst 0, 1) := by decide +kernel
theorem dX12_isShut_20 : decode cX12_isShut 20 = .ok (.ireturn, 1) := by decide +kernel
theorem dX12_sizeOf_0 : decode cX12_sizeOf 0 = .ok (.iconst 0, 1) := by decide +kernel
theorem dX12_sizeOf_1 : decode cX12_sizeOf 1 = .ok (.istore_n 2, 1) := by decide +kernel
theorem dX12_sizeOf_2 : decode cX12_sizeOf 2 = .ok (.iconst 0, 1) := by decide +kernel
theorem dX12_sizeOf_3 : decode cX12_sizeOf 3 = .ok (.istore_n 3, 1) := by decide +kernel
theorem dX12_sizeOf_4 : decode cX12_sizeOf 4 = .ok (.iload_n 3, 1) := by decide +kernel
theorem dX12_sizeOf_5 : decode cX12_sizeOf 5 = .ok (.bipush 64, 2) := by decide +kernel
theorem dX12_sizeOf_7 : decode cX12_sizeOf 7 = .ok (.if_icmp .ge 18, 3) := by decide +kernel
theorem dX12_sizeOf_10 : decode cX12_sizeOf 10 = .ok (.iload_n 2, 1) := by decide +kernel
theorem dX12_sizeOf_11 : decode cX12_sizeOf 11 = .ok (.lload_n 0, 1) := by decide +kernel
theorem dX12_sizeOf_12 : decode cX12_sizeOf 12 = .ok (.iload_n 3, 1) := by decide +kernel
theorem dX12_sizeOf_13 : decode cX12_sizeOf 13 = .ok (.lshr, 1) := by decide +kernel
theorem dX12_sizeOf_14 : decode cX12_sizeOf 14 = .ok (.lconst 1, 1) := by decide +kernel
theorem dX12_sizeOf_15 : decode cX12_sizeOf 15 = .ok (.land, 1) := by decide +kernel
theorem dX12_sizeOf_16 : decode cX12_sizeOf 16 = .ok (.l2i, 1) := by decide +kernel
theorem dX12_sizeOf_17 : decode cX12_sizeOf 17 = .ok (.iadd, 1) := by decide +kernel
theorem dX12_sizeOf_18 : decode cX12_sizeOf 18 = .ok (.istore_n 2, 1) := by decide +kernel
theorem dX12_sizeOf_19 : decode cX12_sizeOf 19 = .ok (.iinc 3 1, 3) := by decide +kernel
theorem dX12_sizeOf_22 : decode cX12_sizeOf 22 = .ok (.goto (-18), 3) := by decide +kernel
theorem dX12_sizeOf_25 : decode cX12_sizeOf 25 = .ok (.iload_n 2, 1) := by decide +kernel
theorem dX12_sizeOf_26 : decode cX12_sizeOf 26 = .ok (.ireturn, 1) := by decide +kernel
theorem dX12_leastOf_0 : decode cX12_leastOf 0 = .ok (.iconst 0, 1) := by decide +kernel
theorem dX12_leastOf_1 : decode cX12_leastOf 1 = .ok (.istore_n 2, 1) := by decide +kernel
theorem dX12_leastOf_2 : decode cX12_leastOf 2 = .ok (.lload_n 0, 1) := by decide +kernel
theorem dX12_leastOf_3 : decode cX12_leastOf 3 = .ok (.iload_n 2, 1) := by decide +kernel
theorem dX12_leastOf_4 : decode cX12_leastOf 4 = .ok (.lshr, 1) := by decide +kernel
theorem dX12_leastOf_5 : decode cX12_leastOf 5 = .ok (.lconst 1, 1) := by decide +kernel
theorem dX12_leastOf_6 : decode cX12_leastOf 6 = .ok (.land, 1) := by decide +kernel
theorem dX12_leastOf_7 : decode cX12_leastOf 7 = .ok (.lconst 0, 1) := by decide +kernel
theorem dX12_leastOf_8 : decode cX12_leastOf 8 = .ok (.lcmp, 1) := by decide +kernel
theorem dX12_leastOf_9 : decode cX12_leastOf 9 = .ok (.ifCond .ne 9, 3) := by decide +kernel
theorem dX12_leastOf_12 : decode cX12_leastOf 12 = .ok (.iinc 2 1, 3) := by decide +kernel
theorem dX12_leastOf_15 : decode cX12_leastOf 15 = .ok (.goto (-13), 3) := by decide +kernel
theorem dX12_leastOf_18 : decode cX12_leastOf 18 = .ok (.iload_n 2, 1) := by decide +kernel
theorem dX12_leastOf_19 : decode cX12_leastOf 19 = .ok (.ireturn, 1) := by decide +kernel
theorem dX12_of_0 : decode cX12_of 0 = .ok (.aload_n 0, 1) := by decide +kernel
theorem dX12_of_1 : decode cX12_of 1 = .ok (.iload_n 1, 1) := by decide +kernel
theorem dX12_of_2 : decode cX12_of 2 = .ok (.invokevirtual 150, 3) := by decide +kernel
theorem dX12_of_5 : decode cX12_of 5 = .ok (.ifCond .eq 15, 3) := by decide +kernel
theorem dX12_of_8 : decode cX12_of 8 = .ok (.iload_n 2, 1) := by decide +kernel
theorem dX12_of_9 : decode cX12_of 9 = .ok (.i2l, 1) := by decide +kernel
theorem dX12_of_10 : decode cX12_of 10 = .ok (.lconst 0, 1) := by decide +kernel
theorem dX12_of_11 : decode cX12_of 11 = .ok (.ldc2_w 161, 3) := by decide +kernel
theorem dX12_of_14 : decode cX12_of 14 = .ok (.invokestatic 72, 3) := by decide +kernel
theorem dX12_of_17 : decode cX12_of 17 = .ok (.ifCond .ne 5, 3) := by decide +kernel
theorem dX12_of_20 : decode cX12_of 20 = .ok (.iconst (-1), 1) := by decide +kernel
theorem dX12_of_21 : decode cX12_of 21 = .ok (.ireturn, 1) := by decide +kernel
theorem dX12_of_22 : decode cX12_of 22 = .ok (.aload_n 0, 1) := by decide +kernel
theorem dX12_of_23 : decode cX12_of 23 = .ok (.invokevirtual 163, 3) := by decide +kernel
theorem dX12_of_26 : decode cX12_of 26 = .ok (.iconst 0, 1) := by decide +kernel
theorem dX12_of_27 : decode cX12_of 27 = .ok (.istore_n 3, 1) := by decide +kernel
theorem dX12_of_28 : decode cX12_of 28 = .ok (.iconst 0, 1) := by decide +kernel
theorem dX12_of_29 : decode cX12_of 29 = .ok (.istore 4, 2) := by decide +kernel
theorem dX12_of_31 : decode cX12_of 31 = .ok (.iconst 0, 1) := by decide +kernel
theorem dX12_of_32 : decode cX12_of 32 = .ok (.istore 5, 2) := by decide +kernel
theorem dX12_of_34 : decode cX12_of 34 = .ok (.iload 5, 2) := by decide +kernel
theorem dX12_of_36 : decode cX12_of 36 = .ok (.aload_n 0, 1) := by decide +kernel
theorem dX12_of_37 : decode cX12_of 37 = .ok (.invokevirtual 68, 3) := by decide +kernel
theorem dX12_of_40 : decode cX12_of 40 = .ok (.if_icmp .ge 38, 3) := by decide +kernel
theorem dX12_of_43 : decode cX12_of 43 = .ok (.aload_n 0, 1) := by decide +kernel
theorem dX12_of_44 : decode cX12_of 44 = .ok (.iload_n 1, 1) := by decide +kernel
theorem dX12_of_45 : decode cX12_of 45 = .ok (.iload 5, 2) := by decide +kernel
theorem dX12_of_47 : decode cX12_of 47 = .ok (.invokevirtual 154, 3) := by decide +kernel
theorem dX12_of_50 : decode cX12_of 50 = .ok (.istore 6, 2) := by decide +kernel
theorem dX12_of_52 : decode cX12_of 52 = .ok (.iload_n 3, 1) := by decide +kernel
theorem dX12_of_53 : decode cX12_of 53 = .ok (.iload 6, 2) := by decide +kernel
theorem dX12_of_55 : decode cX12_of 55 = .ok (.iadd, 1) := by decide +kernel
theorem dX12_of_56 : decode cX12_of 56 = .ok (.istore_n 3, 1) := by decide +kernel
theorem dX12_of_57 : decode cX12_of 57 = .ok (.iload 4, 2) := by decide +kernel
theorem dX12_of_59 : decode cX12_of 59 = .ok (.iload 6, 2) := by decide +kernel
theorem dX12_of_61 : decode cX12_of 61 = .ok (.ifCond .le 7, 3) := by decide +kernel
theorem dX12_of_64 : decode cX12_of 64 = .ok (.iconst 1, 1) := by decide +kernel
theorem dX12_of_65 : decode cX12_of 65 = .ok (.goto 4, 3) := by decide +kernel
theorem dX12_of_68 : decode cX12_of 68 = .ok (.iconst 0, 1) := by decide +kernel
theorem dX12_of_69 : decode cX12_of 69 = .ok (.iadd, 1) := by decide +kernel
theorem dX12_of_70 : decode cX12_of 70 = .ok (.istore 4, 2) := by decide +kernel
theorem dX12_of_72 : decode cX12_of 72 = .ok (.iinc 5 1, 3) := by decide +kernel
theorem dX12_of_75 : decode cX12_of 75 = .ok (.goto (-41), 3) := by decide +kernel
theorem dX12_of_78 : decode cX12_of 78 = .ok (.iload_n 2, 1) := by decide +kernel
theorem dX12_of_79 : decode cX12_of 79 = .ok (.tableswitch 84 0 5 #[37, 39, 42, 52, 61, 75], 37) := by decide +kernel
theorem dX12_of_116 : decode cX12_of 116 = .ok (.iload_n 3, 1) := by decide +kernel
theorem dX12_of_117 : decode cX12_of 117 = .ok (.ireturn, 1) := by decide +kernel
theorem dX12_of_118 : decode cX12_of 118 = .ok (.iload 4, 2) := by decide +kernel
theorem dX12_of_120 : decode cX12_of 120 = .ok (.ireturn, 1) := by decide +kernel
theorem dX12_of_121 : decode cX12_of 121 = .ok (.aload_n 0, 1) := by decide +kernel
theorem dX12_of_122 : decode cX12_of 122 = .ok (.getfield 25, 3) := by decide +kernel
theorem dX12_of_125 : decode cX12_of 125 = .ok (.iload_n 1, 1) := by decide +kernel
theorem dX12_of_126 : decode cX12_of 126 = .ok (.laload, 1) := by decide +kernel
theorem dX12_of_127 : decode cX12_of 127 = .ok (.invokestatic 166, 3) := by decide +kernel
theorem dX12_of_130 : decode cX12_of 130 = .ok (.ireturn, 1) := by decide +kernel
theorem dX12_of_131 : decode cX12_of 131 = .ok (.aload_n 0, 1) := by decide +kernel
theorem dX12_of_132 : decode cX12_of 132 = .ok (.iload_n 1, 1) := by decide +kernel
theorem dX12_of_133 : decode cX12_of 133 = .ok (.invokevirtual 157, 3) := by decide +kernel
theorem dX12_of_136 : decode cX12_of 136 = .ok (.invokestatic 166, 3) := by decide +kernel
theorem dX12_of_139 : decode cX12_of 139 = .ok (.ireturn, 1) := by decide +kernel
theorem dX12_of_140 : decode cX12_of 140 = .ok (.aload_n 0, 1) := by decide +kernel
theorem dX12_of_141 : decode cX12_of 141 = .ok (.iload_n 1, 1) := by decide +kernel
theorem dX12_of_142 : decode cX12_of 142 = .ok (.invokevirtual 170, 3) := by decide +kernel
theorem dX12_of_145 : decode cX12_of 145 = .ok (.ifCond .eq 7, 3) := by decide +kernel
theorem dX12_of_148 : decode cX12_of 148 = .ok (.iconst 1, 1) := by decide +kernel
theorem dX12_of_149 : decode cX12_of 149 = .ok (.goto 4, 3) := by decide +kernel
theorem dX12_of_152 : decode cX12_of 152 = .ok (.iconst 0, 1) := by decide +kernel
theorem dX12_of_153 : decode cX12_of 153 = .ok (.ireturn, 1) := by decide +kernel
theorem dX12_of_154 : decode cX12_of 154 = .ok (.aload_n 0, 1) := by decide +kernel
theorem dX12_of_155 : decode cX12_of 155 = .ok (.iload_n 1, 1) := by decide +kernel
theorem dX12_of_156 : decode cX12_of 156 = .ok (.invokevirtual 157, 3) := by decide +kernel
theorem dX12_of_159 : decode cX12_of 159 = .ok (.invokestatic 173, 3) := by decide +kernel
theorem dX12_of_162 : decode cX12_of 162 = .ok (.ireturn, 1) := by decide +kernel
theorem dX12_of_163 : decode cX12_of 163 = .ok (.iload_n 1, 1) := by decide +kernel
theorem dX12_of_164 : decode cX12_of 164 = .ok (.i2l, 1) := by decide +kernel
theorem dX12_of_165 : decode cX12_of 165 = .ok (.invokestatic 166, 3) := by decide +kernel
theorem dX12_of_168 : decode cX12_of 168 = .ok (.ireturn, 1) := by decide +kernel
theorem dX12_parts_0 : decode cX12_parts 0 = .ok (.iload_n 1, 1) := by decide +kernel
theorem dX12_parts_1 : decode cX12_parts 1 = .ok (.i2l, 1) := by decide +kernel
theorem dX12_parts_2 : decode cX12_parts 2 = .ok (.lconst 0, 1) := by decide +kernel
theorem dX12_parts_3 : decode cX12_parts 3 = .ok (.ldc2_w 176, 3) := by decide +kernel
theorem dX12_parts_6 : decode cX12_parts 6 = .ok (.invokestatic 72, 3) := by decide +kernel
theorem dX12_parts_9 : decode cX12_parts 9 = .ok (.ifCond .ne 5, 3) := by decide +kernel
theorem dX12_parts_12 : decode cX12_parts 12 = .ok (.iconst (-1), 1) := by decide +kernel
theorem dX12_parts_13 : decode cX12_parts 13 = .ok (.ireturn, 1) := by decide +kernel
theorem dX12_parts_14 : decode cX12_parts 14 = .ok (.aload_n 0, 1) := by decide +kernel
theorem dX12_parts_15 : decode cX12_parts 15 = .ok (.invokevirtual 163, 3) := by decide +kernel
theorem dX12_parts_18 : decode cX12_parts 18 = .ok (.iconst 0, 1) := by decide +kernel
theorem dX12_parts_19 : decode cX12_parts 19 = .ok (.istore_n 2, 1) := by decide +kernel
theorem dX12_parts_20 : decode cX12_parts 20 = .ok (.iconst 0, 1) := by decide +kernel
theorem dX12_parts_21 : decode cX12_parts 21 = .ok (.istore_n 3, 1) := by decide +kernel
theorem dX12_parts_22 : decode cX12_parts 22 = .ok (.iconst 0, 1) := by decide +kernel
theorem dX12_parts_23 : decode cX12_parts 23 = .ok (.istore 4, 2) := by decide +kernel
theorem dX12_parts_25 : decode cX12_parts 25 = .ok (.iconst 0, 1) := by decide +kernel
theorem dX12_parts_26 : decode cX12_parts 26 = .ok (.istore 5, 2) := by decide +kernel
theorem dX12_parts_28 : decode cX12_parts 28 = .ok (.iload 5, 2) := by decide +kernel
theorem dX12_parts_30 : decode cX12_parts 30 = .ok (.aload_n 0, 1) := by decide +kernel
theorem dX12_parts_31 : decode cX12_parts 31 = .ok (.invokevirtual 68, 3) := by decide +kernel
theorem dX12_parts_34 : decode cX12_parts 34 = .ok (.if_icmp .ge 65, 3) := by decide +kernel
theorem dX12_parts_37 : decode cX12_parts 37 = .ok (.aload_n 0, 1) := by decide +kernel
theorem dX12_parts_38 : decode cX12_parts 38 = .ok (.iload 5, 2) := by decide +kernel
theorem dX12_parts_40 : decode cX12_parts 40 = .ok (.invokevirtual 157, 3) := by decide +kernel
theorem dX12_parts_43 : decode cX12_parts 43 = .ok (.invokestatic 173, 3) := by decide +kernel
theorem dX12_parts_46 : decode cX12_parts 46 = .ok (.iload 5, 2) := by decide +kernel
theorem dX12_parts_48 : decode cX12_parts 48 = .ok (.if_icmp .ne 45, 3) := by decide +kernel
theorem dX12_parts_51 : decode cX12_parts 51 = .ok (.iinc 2 1, 3) := by decide +kernel
theorem dX12_parts_54 : decode cX12_parts 54 = .ok (.aload_n 0, 1) := by decide +kernel
theorem dX12_parts_55 : decode cX12_parts 55 = .ok (.iload 5, 2) := by decide +kernel
theorem dX12_parts_57 : decode cX12_parts 57 = .ok (.invokevirtual 170, 3) := by decide +kernel
theorem dX12_parts_60 : decode cX12_parts 60 = .ok (.ifCond .eq 33, 3) := by decide +kernel
theorem dX12_parts_63 : decode cX12_parts 63 = .ok (.iinc 3 1, 3) := by decide +kernel
theorem dX12_parts_66 : decode cX12_parts 66 = .ok (.aload_n 0, 1) := by decide +kernel
theorem dX12_parts_67 : decode cX12_parts 67 = .ok (.iload 5, 2) := by decide +kernel
theorem dX12_parts_69 : decode cX12_parts 69 = .ok (.invokevirtual 157, 3) := by decide +kernel
theorem dX12_parts_72 : decode cX12_parts 72 = .ok (.invokestatic 166, 3) := by decide +kernel
theorem dX12_parts_75 : decode cX12_parts 75 = .ok (.istore 6, 2) := by decide +kernel
theorem dX12_parts_77 : decode cX12_parts 77 = .ok (.iload 6, 2) := by decide +kernel
theorem dX12_parts_79 : decode cX12_parts 79 = .ok (.iload 4, 2) := by decide +kernel
theorem dX12_parts_81 : decode cX12_parts 81 = .ok (.if_icmp .le 8, 3) := by decide +kernel
theorem dX12_parts_84 : decode cX12_parts 84 = .ok (.iload 6, 2) := by decide +kernel
theorem dX12_parts_86 : decode cX12_parts 86 = .ok (.goto 5, 3) := by decide +kernel
theorem dX12_parts_89 : decode cX12_parts 89 = .ok (.iload 4, 2) := by decide +kernel
theorem dX12_parts_91 : decode cX12_parts 91 = .ok (.istore 4, 2) := by decide +kernel
theorem dX12_parts_93 : decode cX12_parts 93 = .ok (.iinc 5 1, 3) := by decide +kernel
theorem dX12_parts_96 : decode cX12_parts 96 = .ok (.goto (-68), 3) := by decide +kernel
theorem dX12_parts_99 : decode cX12_parts 99 = .ok (.iload_n 1, 1) := by decide +kernel
theorem dX12_parts_100 : decode cX12_parts 100 = .ok (.ifCond .ne 7, 3) := by decide +kernel
theorem dX12_parts_103 : decode cX12_parts 103 = .ok (.iload_n 2, 1) := by decide +kernel
theorem dX12_parts_104 : decode cX12_parts 104 = .ok (.goto 14, 3) := by decide +kernel
theorem dX12_parts_107 : decode cX12_parts 107 = .ok (.iload_n 1, 1) := by decide +kernel
theorem dX12_parts_108 : decode cX12_parts 108 = .ok (.iconst 1, 1) := by decide +kernel
theorem dX12_parts_109 : decode cX12_parts 109 = .ok (.if_icmp .ne 7, 3) := by decide +kernel
theorem dX12_parts_112 : decode cX12_parts 112 = .ok (.iload_n 3, 1) := by decide +kernel
theorem dX12_parts_113 : decode cX12_parts 113 = .ok (.goto 5, 3) := by decide +kernel
theorem dX12_parts_116 : decode cX12_parts 116 = .ok (.iload 4, 2) := by decide +kernel
theorem dX12_parts_118 : decode cX12_parts 118 = .ok (.ireturn, 1) := by decide +kernel
theorem dX12_layMembers_0 : decode cX12_layMembers 0 = .ok (.aload_n 0, 1) := by decide +kernel
theorem dX12_layMembers_1 : decode cX12_layMembers 1 = .ok (.iload_n 1, 1) := by decide +kernel
theorem dX12_layMembers_2 : decode cX12_layMembers 2 = .ok (.invokevirtual 157, 3) := by decide +kernel
theorem dX12_layMembers_5 : decode cX12_layMembers 5 = .ok (.lstore_n 2, 1) := by decide +kernel
theorem dX12_layMembers_6 : decode cX12_layMembers 6 = .ok (.aload_n 0, 1) := by decide +kernel
theorem dX12_layMembers_7 : decode cX12_layMembers 7 = .ok (.iconst 0, 1) := by decide +kernel
theorem dX12_layMembers_8 : decode cX12_layMembers 8 = .ok (.putfield 178, 3) := by decide +kernel
theorem dX12_layMembers_11 : decode cX12_layMembers 11 = .ok (.iconst 0, 1) := by decide +kernel
theorem dX12_layMembers_12 : decode cX12_layMembers 12 = .ok (.istore 4, 2) := by decide +kernel
theorem dX12_layMembers_14 : decode cX12_layMembers 14 = .ok (.iload 4, 2) := by decide +kernel
theorem dX12_layMembers_16 : decode cX12_layMembers 16 = .ok (.aload_n 0, 1) := by decide +kernel
theorem dX12_layMembers_17 : decode cX12_layMembers 17 = .ok (.invokevirtual 68, 3) := by decide +kernel
theorem dX12_layMembers_20 : decode cX12_layMembers 20 = .ok (.if_icmp .ge 41, 3) := by decide +kernel
theorem dX12_layMembers_23 : decode cX12_layMembers 23 = .ok (.lload_n 2, 1) := by decide +kernel
theorem dX12_layMembers_24 : decode cX12_layMembers 24 = .ok (.iload 4, 2) := by decide +kernel
theorem dX12_layMembers_26 : decode cX12_layMembers 26 = .ok (.lshr, 1) := by decide +kernel
theorem dX12_layMembers_27 : decode cX12_layMembers 27 = .ok (.lconst 1, 1) := by decide +kernel
theorem dX12_layMembers_28 : decode cX12_layMembers 28 = .ok (.land, 1) := by decide +kernel
theorem dX12_layMembers_29 : decode cX12_layMembers 29 = .ok (.lconst 1, 1) := by decide +kernel
theorem dX12_layMembers_30 : decode cX12_layMembers 30 = .ok (.lcmp, 1) := by decide +kernel
theorem dX12_layMembers_31 : decode cX12_layMembers 31 = .ok (.ifCond .ne 24, 3) := by decide +kernel
theorem dX12_layMembers_34 : decode cX12_layMembers 34 = .ok (.aload_n 0, 1) := by decide +kernel
theorem dX12_layMembers_35 : decode cX12_layMembers 35 = .ok (.getfield 29, 3) := by decide +kernel
theorem dX12_layMembers_38 : decode cX12_layMembers 38 = .ok (.aload_n 0, 1) := by decide +kernel
theorem dX12_layMembers_39 : decode cX12_layMembers 39 = .ok (.getfield 178, 3) := by decide +kernel
theorem dX12_layMembers_42 : decode cX12_layMembers 42 = .ok (.iload 4, 2) := by decide +kernel
theorem dX12_layMembers_44 : decode cX12_layMembers 44 = .ok (.iastore, 1) := by decide +kernel
theorem dX12_layMembers_45 : decode cX12_layMembers 45 = .ok (.aload_n 0, 1) := by decide +kernel
theorem dX12_layMembers_46 : decode cX12_layMembers 46 = .ok (.dup, 1) := by decide +kernel
theorem dX12_layMembers_47 : decode cX12_layMembers 47 = .ok (.getfield 178, 3) := by decide +kernel
theorem dX12_layMembers_50 : decode cX12_layMembers 50 = .ok (.iconst 1, 1) := by decide +kernel
theorem dX12_layMembers_51 : decode cX12_layMembers 51 = .ok (.iadd, 1) := by decide +kernel
theorem dX12_layMembers_52 : decode cX12_layMembers 52 = .ok (.putfield 178, 3) := by decide +kernel
theorem dX12_layMembers_55 : decode cX12_layMembers 55 = .ok (.iinc 4 1, 3) := by decide +kernel
theorem dX12_layMembers_58 : decode cX12_layMembers 58 = .ok (.goto (-44), 3) := by decide +kernel
theorem dX12_layMembers_61 : decode cX12_layMembers 61 = .ok (.return_, 1) := by decide +kernel
theorem dX12_weightOf_0 : decode cX12_weightOf 0 = .ok (.aload_n 0, 1) := by decide +kernel
theorem dX12_weightOf_1 : decode cX12_weightOf 1 = .ok (.getfield 178, 3) := by decide +kernel
theorem dX12_weightOf_4 : decode cX12_weightOf 4 = .ok (.iconst 1, 1) := by decide +kernel
theorem dX12_weightOf_5 : decode cX12_weightOf 5 = .ok (.isub, 1) := by decide +kernel
theorem dX12_weightOf_6 : decode cX12_weightOf 6 = .ok (.istore_n 2, 1) := by decide +kernel
theorem dX12_weightOf_7 : decode cX12_weightOf 7 = .ok (.iconst 0, 1) := by decide +kernel
theorem dX12_weightOf_8 : decode cX12_weightOf 8 = .ok (.istore_n 3, 1) := by decide +kernel
theorem dX12_weightOf_9 : decode cX12_weightOf 9 = .ok (.iload_n 3, 1) := by decide +kernel
theorem dX12_weightOf_10 : decode cX12_weightOf 10 = .ok (.iload_n 2, 1) := by decide +kernel
theorem dX12_weightOf_11 : decode cX12_weightOf 11 = .ok (.if_icmp .ge 134, 3) := by decide +kernel
theorem dX12_weightOf_14 : decode cX12_weightOf 14 = .ok (.aload_n 0, 1) := by decide +kernel
theorem dX12_weightOf_15 : decode cX12_weightOf 15 = .ok (.getfield 29, 3) := by decide +kernel
theorem dX12_weightOf_18 : decode cX12_weightOf 18 = .ok (.iload_n 3, 1) := by decide +kernel
theorem dX12_weightOf_19 : decode cX12_weightOf 19 = .ok (.iload_n 1, 1) := by decide +kernel
theorem dX12_weightOf_20 : decode cX12_weightOf 20 = .ok (.if_icmp .ge 7, 3) := by decide +kernel
theorem dX12_weightOf_23 : decode cX12_weightOf 23 = .ok (.iload_n 3, 1) := by decide +kernel
theorem dX12_weightOf_24 : decode cX12_weightOf 24 = .ok (.goto 6, 3) := by decide +kernel
theorem dX12_weightOf_27 : decode cX12_weightOf 27 = .ok (.iload_n 3, 1) := by decide +kernel
theorem dX12_weightOf_28 : decode cX12_weightOf 28 = .ok (.iconst 1, 1) := by decide +kernel
theorem dX12_weightOf_29 : decode cX12_weightOf 29 = .ok (.iadd, 1) := by decide +kernel
theorem dX12_weightOf_30 : decode cX12_weightOf 30 = .ok (.iaload, 1) := by decide +kernel
theorem dX12_weightOf_31 : decode cX12_weightOf 31 = .ok (.istore 4, 2) := by decide +kernel
theorem dX12_weightOf_33 : decode cX12_weightOf 33 = .ok (.lconst 0, 1) := by decide +kernel
theorem dX12_weightOf_34 : decode cX12_weightOf 34 = .ok (.lstore 5, 2) := by decide +kernel
theorem dX12_weightOf_36 : decode cX12_weightOf 36 = .ok (.iconst 0, 1) := by decide +kernel
theorem dX12_weightOf_37 : decode cX12_weightOf 37 = .ok (.istore 7, 2) := by decide +kernel
theorem dX12_weightOf_39 : decode cX12_weightOf 39 = .ok (.iload 7, 2) := by decide +kernel
theorem dX12_weightOf_41 : decode cX12_weightOf 41 = .ok (.aload_n 0, 1) := by decide +kernel
theorem dX12_weightOf_42 : decode cX12_weightOf 42 = .ok (.getfield 178, 3) := by decide +kernel
theorem dX12_weightOf_45 : decode cX12_weightOf 45 = .ok (.if_icmp .ge 28, 3) := by decide +kernel
theorem dX12_weightOf_48 : decode cX12_weightOf 48 = .ok (.lload 5, 2) := by decide +kernel
theorem dX12_weightOf_50 : decode cX12_weightOf 50 = .ok (.aload_n 0, 1) := by decide +kernel
theorem dX12_weightOf_51 : decode cX12_weightOf 51 = .ok (.iload 4, 2) := by decide +kernel
theorem dX12_weightOf_53 : decode cX12_weightOf 53 = .ok (.aload_n 0, 1) := by decide +kernel
theorem dX12_weightOf_54 : decode cX12_weightOf 54 = .ok (.getfield 29, 3) := by decide +kernel
theorem dX12_weightOf_57 : decode cX12_weightOf 57 = .ok (.iload 7, 2) := by decide +kernel
theorem dX12_weightOf_59 : decode cX12_weightOf 59 = .ok (.iaload, 1) := by decide +kernel
theorem dX12_weightOf_60 : decode cX12_weightOf 60 = .ok (.invokevirtual 154, 3) := by decide +kernel
theorem dX12_weightOf_63 : decode cX12_weightOf 63 = .ok (.i2l, 1) := by decide +kernel
theorem dX12_weightOf_64 : decode cX12_weightOf 64 = .ok (.ladd, 1) := by decide +kernel
theorem dX12_weightOf_65 : decode cX12_weightOf 65 = .ok (.lstore 5, 2) := by decide +kernel
theorem dX12_weightOf_67 : decode cX12_weightOf 67 = .ok (.iinc 7 1, 3) := by decide +kernel
theorem dX12_weightOf_70 : decode cX12_weightOf 70 = .ok (.goto (-31), 3) := by decide +kernel
theorem dX12_weightOf_73 : decode cX12_weightOf 73 = .ok (.iconst 0, 1) := by decide +kernel
theorem dX12_weightOf_74 : decode cX12_weightOf 74 = .ok (.istore 7, 2) := by decide +kernel
theorem dX12_weightOf_76 : decode cX12_weightOf 76 = .ok (.iload 7, 2) := by decide +kernel
theorem dX12_weightOf_78 : decode cX12_weightOf 78 = .ok (.iload_n 2, 1) := by decide +kernel
theorem dX12_weightOf_79 : decode cX12_weightOf 79 = .ok (.if_icmp .ge 60, 3) := by decide +kernel
theorem dX12_weightOf_82 : decode cX12_weightOf 82 = .ok (.aload_n 0, 1) := by decide +kernel
theorem dX12_weightOf_83 : decode cX12_weightOf 83 = .ok (.getfield 35, 3) := by decide +kernel
theorem dX12_weightOf_86 : decode cX12_weightOf 86 = .ok (.bipush 8, 2) := by decide +kernel
theorem dX12_weightOf_88 : decode cX12_weightOf 88 = .ok (.iload_n 3, 1) := by decide +kernel
theorem dX12_weightOf_89 : decode cX12_weightOf 89 = .ok (.imul, 1) := by decide +kernel
theorem dX12_weightOf_90 : decode cX12_weightOf 90 = .ok (.iload 7, 2) := by decide +kernel
theorem dX12_weightOf_92 : decode cX12_weightOf 92 = .ok (.iadd, 1) := by decide +kernel
theorem dX12_weightOf_93 : decode cX12_weightOf 93 = .ok (.iload_n 3, 1) := by decide +kernel
theorem dX12_weightOf_94 : decode cX12_weightOf 94 = .ok (.iload 7, 2) := by decide +kernel
theorem dX12_weightOf_96 : decode cX12_weightOf 96 = .ok (.if_icmp .ne 8, 3) := by decide +kernel
theorem dX12_weightOf_99 : decode cX12_weightOf 99 = .ok (.lload 5, 2) := by decide +kernel
theorem dX12_weightOf_101 : decode cX12_weightOf 101 = .ok (.goto 31, 3) := by decide +kernel
theorem dX12_weightOf_104 : decode cX12_weightOf 104 = .ok (.aload_n 0, 1) := by decide +kernel
theorem dX12_weightOf_105 : decode cX12_weightOf 105 = .ok (.iload 4, 2) := by decide +kernel
theorem dX12_weightOf_107 : decode cX12_weightOf 107 = .ok (.aload_n 0, 1) := by decide +kernel
theorem dX12_weightOf_108 : decode cX12_weightOf 108 = .ok (.getfield 29, 3) := by decide +kernel
theorem dX12_weightOf_111 : decode cX12_weightOf 111 = .ok (.iload 7, 2) := by decide +kernel
theorem dX12_weightOf_113 : decode cX12_weightOf 113 = .ok (.iload_n 1, 1) := by decide +kernel
theorem dX12_weightOf_114 : decode cX12_weightOf 114 = .ok (.if_icmp .ge 8, 3) := by decide +kernel
theorem dX12_weightOf_117 : decode cX12_weightOf 117 = .ok (.iload 7, 2) := by decide +kernel
theorem dX12_weightOf_119 : decode cX12_weightOf 119 = .ok (.goto 7, 3) := by decide +kernel
theorem dX12_weightOf_122 : decode cX12_weightOf 122 = .ok (.iload 7, 2) := by decide +kernel
theorem dX12_weightOf_124 : decode cX12_weightOf 124 = .ok (.iconst 1, 1) := by decide +kernel
theorem dX12_weightOf_125 : decode cX12_weightOf 125 = .ok (.iadd, 1) := by decide +kernel
theorem dX12_weightOf_126 : decode cX12_weightOf 126 = .ok (.iaload, 1) := by decide +kernel
theorem dX12_weightOf_127 : decode cX12_weightOf 127 = .ok (.invokevirtual 154, 3) := by decide +kernel
theorem dX12_weightOf_130 : decode cX12_weightOf 130 = .ok (.ineg, 1) := by decide +kernel
theorem dX12_weightOf_131 : decode cX12_weightOf 131 = .ok (.i2l, 1) := by decide +kernel
theorem dX12_weightOf_132 : decode cX12_weightOf 132 = .ok (.lastore, 1) := by decide +kernel
theorem dX12_weightOf_133 : decode cX12_weightOf 133 = .ok (.iinc 7 1, 3) := by decide +kernel
theorem dX12_weightOf_136 : decode cX12_weightOf 136 = .ok (.goto (-60), 3) := by decide +kernel
theorem dX12_weightOf_139 : decode cX12_weightOf 139 = .ok (.iinc 3 1, 3) := by decide +kernel
theorem dX12_weightOf_142 : decode cX12_weightOf 142 = .ok (.goto (-133), 3) := by decide +kernel
theorem dX12_weightOf_145 : decode cX12_weightOf 145 = .ok (.lconst 1, 1) := by decide +kernel
theorem dX12_weightOf_146 : decode cX12_weightOf 146 = .ok (.lstore_n 3, 1) := by decide +kernel
theorem dX12_weightOf_147 : decode cX12_weightOf 147 = .ok (.iconst 0, 1) := by decide +kernel
theorem dX12_weightOf_148 : decode cX12_weightOf 148 = .ok (.istore 5, 2) := by decide +kernel
theorem dX12_weightOf_150 : decode cX12_weightOf 150 = .ok (.iload 5, 2) := by decide +kernel
theorem dX12_weightOf_152 : decode cX12_weightOf 152 = .ok (.iconst 1, 1) := by decide +kernel
theorem dX12_weightOf_153 : decode cX12_weightOf 153 = .ok (.iadd, 1) := by decide +kernel
theorem dX12_weightOf_154 : decode cX12_weightOf 154 = .ok (.iload_n 2, 1) := by decide +kernel
theorem dX12_weightOf_155 : decode cX12_weightOf 155 = .ok (.if_icmp .ge 129, 3) := by decide +kernel
theorem dX12_weightOf_158 : decode cX12_weightOf 158 = .ok (.iload 5, 2) := by decide +kernel
theorem dX12_weightOf_160 : decode cX12_weightOf 160 = .ok (.iconst 1, 1) := by decide +kernel
theorem dX12_weightOf_161 : decode cX12_weightOf 161 = .ok (.iadd, 1) := by decide +kernel
theorem dX12_weightOf_162 : decode cX12_weightOf 162 = .ok (.istore 6, 2) := by decide +kernel
theorem dX12_weightOf_164 : decode cX12_weightOf 164 = .ok (.iload 6, 2) := by decide +kernel
theorem dX12_weightOf_166 : decode cX12_weightOf 166 = .ok (.iload_n 2, 1) := by decide +kernel
theorem dX12_weightOf_167 : decode cX12_weightOf 167 = .ok (.if_icmp .ge 97, 3) := by decide +kernel
theorem dX12_weightOf_170 : decode cX12_weightOf 170 = .ok (.iload 5, 2) := by decide +kernel
theorem dX12_weightOf_172 : decode cX12_weightOf 172 = .ok (.iconst 1, 1) := by decide +kernel
theorem dX12_weightOf_173 : decode cX12_weightOf 173 = .ok (.iadd, 1) := by decide +kernel
theorem dX12_weightOf_174 : decode cX12_weightOf 174 = .ok (.istore 7, 2) := by decide +kernel
theorem dX12_weightOf_176 : decode cX12_weightOf 176 = .ok (.iload 7, 2) := by decide +kernel
theorem dX12_weightOf_178 : decode cX12_weightOf 178 = .ok (.iload_n 2, 1) := by decide +kernel
theorem dX12_weightOf_179 : decode cX12_weightOf 179 = .ok (.if_icmp .ge 79, 3) := by decide +kernel
theorem dX12_weightOf_182 : decode cX12_weightOf 182 = .ok (.aload_n 0, 1) := by decide +kernel
theorem dX12_weightOf_183 : decode cX12_weightOf 183 = .ok (.getfield 35, 3) := by decide +kernel
theorem dX12_weightOf_186 : decode cX12_weightOf 186 = .ok (.bipush 8, 2) := by decide +kernel
theorem dX12_weightOf_188 : decode cX12_weightOf 188 = .ok (.iload 6, 2) := by decide +kernel
theorem dX12_weightOf_190 : decode cX12_weightOf 190 = .ok (.imul, 1) := by decide +kernel
theorem dX12_weightOf_191 : decode cX12_weightOf 191 = .ok (.iload 7, 2) := by decide +kernel
theorem dX12_weightOf_193 : decode cX12_weightOf 193 = .ok (.iadd, 1) := by decide +kernel
theorem dX12_weightOf_194 : decode cX12_weightOf 194 = .ok (.aload_n 0, 1) := by decide +kernel
theorem dX12_weightOf_195 : decode cX12_weightOf 195 = .ok (.getfield 35, 3) := by decide +kernel
theorem dX12_weightOf_198 : decode cX12_weightOf 198 = .ok (.bipush 8, 2) := by decide +kernel
theorem dX12_weightOf_200 : decode cX12_weightOf 200 = .ok (.iload 6, 2) := by decide +kernel
theorem dX12_weightOf_202 : decode cX12_weightOf 202 = .ok (.imul, 1) := by decide +kernel
theorem dX12_weightOf_203 : decode cX12_weightOf 203 = .ok (.iload 7, 2) := by decide +kernel
theorem dX12_weightOf_205 : decode cX12_weightOf 205 = .ok (.iadd, 1) := by decide +kernel
theorem dX12_weightOf_206 : decode cX12_weightOf 206 = .ok (.laload, 1) := by decide +kernel
theorem dX12_weightOf_207 : decode cX12_weightOf 207 = .ok (.aload_n 0, 1) := by decide +kernel
theorem dX12_weightOf_208 : decode cX12_weightOf 208 = .ok (.getfield 35, 3) := by decide +kernel
theorem dX12_weightOf_211 : decode cX12_weightOf 211 = .ok (.bipush 8, 2) := by decide +kernel
theorem dX12_weightOf_213 : decode cX12_weightOf 213 = .ok (.iload 5, 2) := by decide +kernel
theorem dX12_weightOf_215 : decode cX12_weightOf 215 = .ok (.imul, 1) := by decide +kernel
theorem dX12_weightOf_216 : decode cX12_weightOf 216 = .ok (.iload 5, 2) := by decide +kernel
theorem dX12_weightOf_218 : decode cX12_weightOf 218 = .ok (.iadd, 1) := by decide +kernel
theorem dX12_weightOf_219 : decode cX12_weightOf 219 = .ok (.laload, 1) := by decide +kernel
theorem dX12_weightOf_220 : decode cX12_weightOf 220 = .ok (.lmul, 1) := by decide +kernel
theorem dX12_weightOf_221 : decode cX12_weightOf 221 = .ok (.aload_n 0, 1) := by decide +kernel
theorem dX12_weightOf_222 : decode cX12_weightOf 222 = .ok (.getfield 35, 3) := by decide +kernel
theorem dX12_weightOf_225 : decode cX12_weightOf 225 = .ok (.bipush 8, 2) := by decide +kernel
theorem dX12_weightOf_227 : decode cX12_weightOf 227 = .ok (.iload 6, 2) := by decide +kernel
theorem dX12_weightOf_229 : decode cX12_weightOf 229 = .ok (.imul, 1) := by decide +kernel
theorem dX12_weightOf_230 : decode cX12_weightOf 230 = .ok (.iload 5, 2) := by decide +kernel
theorem dX12_weightOf_232 : decode cX12_weightOf 232 = .ok (.iadd, 1) := by decide +kernel
theorem dX12_weightOf_233 : decode cX12_weightOf 233 = .ok (.laload, 1) := by decide +kernel
theorem dX12_weightOf_234 : decode cX12_weightOf 234 = .ok (.aload_n 0, 1) := by decide +kernel
theorem dX12_weightOf_235 : decode cX12_weightOf 235 = .ok (.getfield 35, 3) := by decide +kernel
theorem dX12_weightOf_238 : decode cX12_weightOf 238 = .ok (.bipush 8, 2) := by decide +kernel
theorem dX12_weightOf_240 : decode cX12_weightOf 240 = .ok (.iload 5, 2) := by decide +kernel
theorem dX12_weightOf_242 : decode cX12_weightOf 242 = .ok (.imul, 1) := by decide +kernel
theorem dX12_weightOf_243 : decode cX12_weightOf 243 = .ok (.iload 7, 2) := by decide +kernel
theorem dX12_weightOf_245 : decode cX12_weightOf 245 = .ok (.iadd, 1) := by decide +kernel
theorem dX12_weightOf_246 : decode cX12_weightOf 246 = .ok (.laload, 1) := by decide +kernel
theorem dX12_weightOf_247 : decode cX12_weightOf 247 = .ok (.lmul, 1) := by decide +kernel
theorem dX12_weightOf_248 : decode cX12_weightOf 248 = .ok (.lsub, 1) := by decide +kernel
theorem dX12_weightOf_249 : decode cX12_weightOf 249 = .ok (.lload_n 3, 1) := by decide +kernel
theorem dX12_weightOf_250 : decode cX12_weightOf 250 = .ok (.ldiv, 1) := by decide +kernel
theorem dX12_weightOf_251 : decode cX12_weightOf 251 = .ok (.lastore, 1) := by decide +kernel
theorem dX12_weightOf_252 : decode cX12_weightOf 252 = .ok (.iinc 7 1, 3) := by decide +kernel
theorem dX12_weightOf_255 : decode cX12_weightOf 255 = .ok (.goto (-79), 3) := by decide +kernel
theorem dX12_weightOf_258 : decode cX12_weightOf 258 = .ok (.iinc 6 1, 3) := by decide +kernel
theorem dX12_weightOf_261 : decode cX12_weightOf 261 = .ok (.goto (-97), 3) := by decide +kernel
theorem dX12_weightOf_264 : decode cX12_weightOf 264 = .ok (.aload_n 0, 1) := by decide +kernel
theorem dX12_weightOf_265 : decode cX12_weightOf 265 = .ok (.getfield 35, 3) := by decide +kernel
theorem dX12_weightOf_268 : decode cX12_weightOf 268 = .ok (.bipush 8, 2) := by decide +kernel
theorem dX12_weightOf_270 : decode cX12_weightOf 270 = .ok (.iload 5, 2) := by decide +kernel
theorem dX12_weightOf_272 : decode cX12_weightOf 272 = .ok (.imul, 1) := by decide +kernel
theorem dX12_weightOf_273 : decode cX12_weightOf 273 = .ok (.iload 5, 2) := by decide +kernel
theorem dX12_weightOf_275 : decode cX12_weightOf 275 = .ok (.iadd, 1) := by decide +kernel
theorem dX12_weightOf_276 : decode cX12_weightOf 276 = .ok (.laload, 1) := by decide +kernel
theorem dX12_weightOf_277 : decode cX12_weightOf 277 = .ok (.lstore_n 3, 1) := by decide +kernel
theorem dX12_weightOf_278 : decode cX12_weightOf 278 = .ok (.iinc 5 1, 3) := by decide +kernel
theorem dX12_weightOf_281 : decode cX12_weightOf 281 = .ok (.goto (-131), 3) := by decide +kernel
theorem dX12_weightOf_284 : decode cX12_weightOf 284 = .ok (.iload_n 2, 1) := by decide +kernel
theorem dX12_weightOf_285 : decode cX12_weightOf 285 = .ok (.ifCond .ne 7, 3) := by decide +kernel
theorem dX12_weightOf_288 : decode cX12_weightOf 288 = .ok (.lconst 1, 1) := by decide +kernel
theorem dX12_weightOf_289 : decode cX12_weightOf 289 = .ok (.goto 18, 3) := by decide +kernel
theorem dX12_weightOf_292 : decode cX12_weightOf 292 = .ok (.aload_n 0, 1) := by decide +kernel
theorem dX12_weightOf_293 : decode cX12_weightOf 293 = .ok (.getfield 35, 3) := by decide +kernel
theorem dX12_weightOf_296 : decode cX12_weightOf 296 = .ok (.bipush 8, 2) := by decide +kernel
theorem dX12_weightOf_298 : decode cX12_weightOf 298 = .ok (.iload_n 2, 1) := by decide +kernel
theorem dX12_weightOf_299 : decode cX12_weightOf 299 = .ok (.iconst 1, 1) := by decide +kernel
theorem dX12_weightOf_300 : decode cX12_weightOf 300 = .ok (.isub, 1) := by decide +kernel
theorem dX12_weightOf_301 : decode cX12_weightOf 301 = .ok (.imul, 1) := by decide +kernel
theorem dX12_weightOf_302 : decode cX12_weightOf 302 = .ok (.iload_n 2, 1) := by decide +kernel
theorem dX12_weightOf_303 : decode cX12_weightOf 303 = .ok (.iadd, 1) := by decide +kernel
theorem dX12_weightOf_304 : decode cX12_weightOf 304 = .ok (.iconst 1, 1) := by decide +kernel
theorem dX12_weightOf_305 : decode cX12_weightOf 305 = .ok (.isub, 1) := by decide +kernel
theorem dX12_weightOf_306 : decode cX12_weightOf 306 = .ok (.laload, 1) := by decide +kernel
theorem dX12_weightOf_307 : decode cX12_weightOf 307 = .ok (.lreturn, 1) := by decide +kernel
theorem dX12_layRest_0 : decode cX12_layRest 0 = .ok (.aload_n 0, 1) := by decide +kernel
theorem dX12_layRest_1 : decode cX12_layRest 1 = .ok (.invokevirtual 163, 3) := by decide +kernel
theorem dX12_layRest_4 : decode cX12_layRest 4 = .ok (.aload_n 0, 1) := by decide +kernel
theorem dX12_layRest_5 : decode cX12_layRest 5 = .ok (.iload_n 1, 1) := by decide +kernel
theorem dX12_layRest_6 : decode cX12_layRest 6 = .ok (.invokevirtual 170, 3) := by decide +kernel
theorem dX12_layRest_9 : decode cX12_layRest 9 = .ok (.ifCond .ne 6, 3) := by decide +kernel
theorem dX12_layRest_12 : decode cX12_layRest 12 = .ok (.bipush (-4), 2) := by decide +kernel
theorem dX12_layRest_14 : decode cX12_layRest 14 = .ok (.ireturn, 1) := by decide +kernel
theorem dX12_layRest_15 : decode cX12_layRest 15 = .ok (.aload_n 0, 1) := by decide +kernel
theorem dX12_layRest_16 : decode cX12_layRest 16 = .ok (.iload_n 1, 1) := by decide +kernel
theorem dX12_layRest_17 : decode cX12_layRest 17 = .ok (.invokevirtual 181, 3) := by decide +kernel
theorem dX12_layRest_20 : decode cX12_layRest 20 = .ok (.aload_n 0, 1) := by decide +kernel
theorem dX12_layRest_21 : decode cX12_layRest 21 = .ok (.getfield 178, 3) := by decide +kernel
theorem dX12_layRest_24 : decode cX12_layRest 24 = .ok (.bipush 8, 2) := by decide +kernel
theorem dX12_layRest_26 : decode cX12_layRest 26 = .ok (.if_icmp .le 6, 3) := by decide +kernel
theorem dX12_layRest_29 : decode cX12_layRest 29 = .ok (.bipush (-6), 2) := by decide +kernel
theorem dX12_layRest_31 : decode cX12_layRest 31 = .ok (.ireturn, 1) := by decide +kernel
theorem dX12_layRest_32 : decode cX12_layRest 32 = .ok (.iconst 0, 1) := by decide +kernel
theorem dX12_layRest_33 : decode cX12_layRest 33 = .ok (.istore_n 2, 1) := by decide +kernel
theorem dX12_layRest_34 : decode cX12_layRest 34 = .ok (.iload_n 2, 1) := by decide +kernel
theorem dX12_layRest_35 : decode cX12_layRest 35 = .ok (.aload_n 0, 1) := by decide +kernel
theorem dX12_layRest_36 : decode cX12_layRest 36 = .ok (.getfield 178, 3) := by decide +kernel
theorem dX12_layRest_39 : decode cX12_layRest 39 = .ok (.if_icmp .ge 20, 3) := by decide +kernel
theorem dX12_layRest_42 : decode cX12_layRest 42 = .ok (.aload_n 0, 1) := by decide +kernel
theorem dX12_layRest_43 : decode cX12_layRest 43 = .ok (.getfield 32, 3) := by decide +kernel
theorem dX12_layRest_46 : decode cX12_layRest 46 = .ok (.iload_n 2, 1) := by decide +kernel
theorem dX12_layRest_47 : decode cX12_layRest 47 = .ok (.aload_n 0, 1) := by decide +kernel
theorem dX12_layRest_48 : decode cX12_layRest 48 = .ok (.iload_n 2, 1) := by decide +kernel
theorem dX12_layRest_49 : decode cX12_layRest 49 = .ok (.invokevirtual 184, 3) := by decide +kernel
theorem dX12_layRest_52 : decode cX12_layRest 52 = .ok (.lastore, 1) := by decide +kernel
theorem dX12_layRest_53 : decode cX12_layRest 53 = .ok (.iinc 2 1, 3) := by decide +kernel
theorem dX12_layRest_56 : decode cX12_layRest 56 = .ok (.goto (-22), 3) := by decide +kernel
theorem dX12_layRest_59 : decode cX12_layRest 59 = .ok (.iconst 1, 1) := by decide +kernel
theorem dX12_layRest_60 : decode cX12_layRest 60 = .ok (.ireturn, 1) := by decide +kernel
theorem dX12_weightAll_0 : decode cX12_weightAll 0 = .ok (.lconst 0, 1) := by decide +kernel
theorem dX12_weightAll_1 : decode cX12_weightAll 1 = .ok (.lstore_n 1, 1) := by decide +kernel
theorem dX12_weightAll_2 : decode cX12_weightAll 2 = .ok (.iconst 0, 1) := by decide +kernel
theorem dX12_weightAll_3 : decode cX12_weightAll 3 = .ok (.istore_n 3, 1) := by decide +kernel
theorem dX12_weightAll_4 : decode cX12_weightAll 4 = .ok (.iload_n 3, 1) := by decide +kernel
theorem dX12_weightAll_5 : decode cX12_weightAll 5 = .ok (.aload_n 0, 1) := by decide +kernel
theorem dX12_weightAll_6 : decode cX12_weightAll 6 = .ok (.getfield 178, 3) := by decide +kernel
theorem dX12_weightAll_9 : decode cX12_weightAll 9 = .ok (.if_icmp .ge 18, 3) := by decide +kernel
theorem dX12_weightAll_12 : decode cX12_weightAll 12 = .ok (.lload_n 1, 1) := by decide +kernel
theorem dX12_weightAll_13 : decode cX12_weightAll 13 = .ok (.aload_n 0, 1) := by decide +kernel
theorem dX12_weightAll_14 : decode cX12_weightAll 14 = .ok (.getfield 32, 3) := by decide +kernel
theorem dX12_weightAll_17 : decode cX12_weightAll 17 = .ok (.iload_n 3, 1) := by decide +kernel
theorem dX12_weightAll_18 : decode cX12_weightAll 18 = .ok (.laload, 1) := by decide +kernel
theorem dX12_weightAll_19 : decode cX12_weightAll 19 = .ok (.ladd, 1) := by decide +kernel
theorem dX12_weightAll_20 : decode cX12_weightAll 20 = .ok (.lstore_n 1, 1) := by decide +kernel
theorem dX12_weightAll_21 : decode cX12_weightAll 21 = .ok (.iinc 3 1, 3) := by decide +kernel
theorem dX12_weightAll_24 : decode cX12_weightAll 24 = .ok (.goto (-20), 3) := by decide +kernel
theorem dX12_weightAll_27 : decode cX12_weightAll 27 = .ok (.lload_n 1, 1) := by decide +kernel
theorem dX12_weightAll_28 : decode cX12_weightAll 28 = .ok (.lreturn, 1) := by decide +kernel
theorem dX12_lowest_0 : decode cX12_lowest 0 = .ok (.lload_n 0, 1) := by decide +kernel
theorem dX12_lowest_1 : decode cX12_lowest 1 = .ok (.lconst 0, 1) := by decide +kernel
theorem dX12_lowest_2 : decode cX12_lowest 2 = .ok (.lcmp, 1) := by decide +kernel
theorem dX12_lowest_3 : decode cX12_lowest 3 = .ok (.ifCond .ge 8, 3) := by decide +kernel
theorem dX12_lowest_6 : decode cX12_lowest 6 = .ok (.lload_n 0, 1) := by decide +kernel
theorem dX12_lowest_7 : decode cX12_lowest 7 = .ok (.lneg, 1) := by decide +kernel
theorem dX12_lowest_8 : decode cX12_lowest 8 = .ok (.goto 4, 3) := by decide +kernel
theorem dX12_lowest_11 : decode cX12_lowest 11 = .ok (.lload_n 0, 1) := by decide +kernel
theorem dX12_lowest_12 : decode cX12_lowest 12 = .ok (.lstore 5, 2) := by decide +kernel
theorem dX12_lowest_14 : decode cX12_lowest 14 = .ok (.lload_n 2, 1) := by decide +kernel
theorem dX12_lowest_15 : decode cX12_lowest 15 = .ok (.lstore 7, 2) := by decide +kernel
theorem dX12_lowest_17 : decode cX12_lowest 17 = .ok (.lload 7, 2) := by decide +kernel
theorem dX12_lowest_19 : decode cX12_lowest 19 = .ok (.lconst 0, 1) := by decide +kernel
theorem dX12_lowest_20 : decode cX12_lowest 20 = .ok (.lcmp, 1) := by decide +kernel
theorem dX12_lowest_21 : decode cX12_lowest 21 = .ok (.ifCond .eq 21, 3) := by decide +kernel
theorem dX12_lowest_24 : decode cX12_lowest 24 = .ok (.lload 5, 2) := by decide +kernel
theorem dX12_lowest_26 : decode cX12_lowest 26 = .ok (.lload 7, 2) := by decide +kernel
theorem dX12_lowest_28 : decode cX12_lowest 28 = .ok (.lrem, 1) := by decide +kernel
theorem dX12_lowest_29 : decode cX12_lowest 29 = .ok (.lstore 9, 2) := by decide +kernel
theorem dX12_lowest_31 : decode cX12_lowest 31 = .ok (.lload 7, 2) := by decide +kernel
theorem dX12_lowest_33 : decode cX12_lowest 33 = .ok (.lstore 5, 2) := by decide +kernel
theorem dX12_lowest_35 : decode cX12_lowest 35 = .ok (.lload 9, 2) := by decide +kernel
theorem dX12_lowest_37 : decode cX12_lowest 37 = .ok (.lstore 7, 2) := by decide +kernel
theorem dX12_lowest_39 : decode cX12_lowest 39 = .ok (.goto (-22), 3) := by decide +kernel
theorem dX12_lowest_42 : decode cX12_lowest 42 = .ok (.iload 4, 2) := by decide +kernel
theorem dX12_lowest_44 : decode cX12_lowest 44 = .ok (.ifCond .ne 7, 3) := by decide +kernel
theorem dX12_lowest_47 : decode cX12_lowest 47 = .ok (.lload_n 0, 1) := by decide +kernel
theorem dX12_lowest_48 : decode cX12_lowest 48 = .ok (.goto 4, 3) := by decide +kernel
theorem dX12_lowest_51 : decode cX12_lowest 51 = .ok (.lload_n 2, 1) := by decide +kernel
theorem dX12_lowest_52 : decode cX12_lowest 52 = .ok (.lload 5, 2) := by decide +kernel
theorem dX12_lowest_54 : decode cX12_lowest 54 = .ok (.ldiv, 1) := by decide +kernel
theorem dX12_lowest_55 : decode cX12_lowest 55 = .ok (.lreturn, 1) := by decide +kernel
theorem dX12_rest_0 : decode cX12_rest 0 = .ok (.aload_n 0, 1) := by decide +kernel
theorem dX12_rest_1 : decode cX12_rest 1 = .ok (.iload_n 1, 1) := by decide +kernel
theorem dX12_rest_2 : decode cX12_rest 2 = .ok (.invokevirtual 150, 3) := by decide +kernel
theorem dX12_rest_5 : decode cX12_rest 5 = .ok (.ifCond .eq 13, 3) := by decide +kernel
theorem dX12_rest_8 : decode cX12_rest 8 = .ok (.iload_n 2, 1) := by decide +kernel
theorem dX12_rest_9 : decode cX12_rest 9 = .ok (.i2l, 1) := by decide +kernel
theorem dX12_rest_10 : decode cX12_rest 10 = .ok (.lconst 0, 1) := by decide +kernel
theorem dX12_rest_11 : decode cX12_rest 11 = .ok (.lconst 1, 1) := by decide +kernel
theorem dX12_rest_12 : decode cX12_rest 12 = .ok (.invokestatic 72, 3) := by decide +kernel
theorem dX12_rest_15 : decode cX12_rest 15 = .ok (.ifCond .ne 7, 3) := by decide +kernel
theorem dX12_rest_18 : decode cX12_rest 18 = .ok (.ldc2_w 187, 3) := by decide +kernel
theorem dX12_rest_21 : decode cX12_rest 21 = .ok (.lreturn, 1) := by decide +kernel
theorem dX12_rest_22 : decode cX12_rest 22 = .ok (.aload_n 0, 1) := by decide +kernel
theorem dX12_rest_23 : decode cX12_rest 23 = .ok (.iload_n 1, 1) := by decide +kernel
theorem dX12_rest_24 : decode cX12_rest 24 = .ok (.invokevirtual 189, 3) := by decide +kernel
theorem dX12_rest_27 : decode cX12_rest 27 = .ok (.istore_n 3, 1) := by decide +kernel
theorem dX12_rest_28 : decode cX12_rest 28 = .ok (.iload_n 3, 1) := by decide +kernel
theorem dX12_rest_29 : decode cX12_rest 29 = .ok (.ifCond .ge 6, 3) := by decide +kernel
theorem dX12_rest_32 : decode cX12_rest 32 = .ok (.iload_n 3, 1) := by decide +kernel
theorem dX12_rest_33 : decode cX12_rest 33 = .ok (.i2l, 1) := by decide +kernel
theorem dX12_rest_34 : decode cX12_rest 34 = .ok (.lreturn, 1) := by decide +kernel
theorem dX12_rest_35 : decode cX12_rest 35 = .ok (.lconst 0, 1) := by decide +kernel
theorem dX12_rest_36 : decode cX12_rest 36 = .ok (.lstore 4, 2) := by decide +kernel
theorem dX12_rest_38 : decode cX12_rest 38 = .ok (.iconst 0, 1) := by decide +kernel
theorem dX12_rest_39 : decode cX12_rest 39 = .ok (.istore 6, 2) := by decide +kernel
theorem dX12_rest_41 : decode cX12_rest 41 = .ok (.iload 6, 2) := by decide +kernel
theorem dX12_rest_43 : decode cX12_rest 43 = .ok (.aload_n 0, 1) := by decide +kernel
theorem dX12_rest_44 : decode cX12_rest 44 = .ok (.getfield 178, 3) := by decide +kernel
theorem dX12_rest_47 : decode cX12_rest 47 = .ok (.if_icmp .ge 34, 3) := by decide +kernel
theorem dX12_rest_50 : decode cX12_rest 50 = .ok (.aload_n 0, 1) := by decide +kernel
theorem dX12_rest_51 : decode cX12_rest 51 = .ok (.getfield 29, 3) := by decide +kernel
theorem dX12_rest_54 : decode cX12_rest 54 = .ok (.iload 6, 2) := by decide +kernel
theorem dX12_rest_56 : decode cX12_rest 56 = .ok (.iaload, 1) := by decide +kernel
theorem dX12_rest_57 : decode cX12_rest 57 = .ok (.iload_n 1, 1) := by decide +kernel
theorem dX12_rest_58 : decode cX12_rest 58 = .ok (.if_icmp .ne 13, 3) := by decide +kernel
theorem dX12_rest_61 : decode cX12_rest 61 = .ok (.aload_n 0, 1) := by decide +kernel
theorem dX12_rest_62 : decode cX12_rest 62 = .ok (.getfield 32, 3) := by decide +kernel
theorem dX12_rest_65 : decode cX12_rest 65 = .ok (.iload 6, 2) := by decide +kernel
theorem dX12_rest_67 : decode cX12_rest 67 = .ok (.laload, 1) := by decide +kernel
theorem dX12_rest_68 : decode cX12_rest 68 = .ok (.goto 5, 3) := by decide +kernel
theorem dX12_rest_71 : decode cX12_rest 71 = .ok (.lload 4, 2) := by decide +kernel
theorem dX12_rest_73 : decode cX12_rest 73 = .ok (.lstore 4, 2) := by decide +kernel
theorem dX12_rest_75 : decode cX12_rest 75 = .ok (.iinc 6 1, 3) := by decide +kernel
theorem dX12_rest_78 : decode cX12_rest 78 = .ok (.goto (-37), 3) := by decide +kernel
theorem dX12_rest_81 : decode cX12_rest 81 = .ok (.lload 4, 2) := by decide +kernel
theorem dX12_rest_83 : decode cX12_rest 83 = .ok (.aload_n 0, 1) := by decide +kernel
theorem dX12_rest_84 : decode cX12_rest 84 = .ok (.invokevirtual 192, 3) := by decide +kernel
theorem dX12_rest_87 : decode cX12_rest 87 = .ok (.iload_n 2, 1) := by decide +kernel
theorem dX12_rest_88 : decode cX12_rest 88 = .ok (.invokestatic 196, 3) := by decide +kernel
theorem dX12_rest_91 : decode cX12_rest 91 = .ok (.lreturn, 1) := by decide +kernel
theorem dX12_goesIn_0 : decode cX12_goesIn 0 = .ok (.aload_n 0, 1) := by decide +kernel
theorem dX12_goesIn_1 : decode cX12_goesIn 1 = .ok (.invokevirtual 139, 3) := by decide +kernel
theorem dX12_goesIn_4 : decode cX12_goesIn 4 = .ok (.iconst 1, 1) := by decide +kernel
theorem dX12_goesIn_5 : decode cX12_goesIn 5 = .ok (.if_icmp .ne 41, 3) := by decide +kernel
theorem dX12_goesIn_8 : decode cX12_goesIn 8 = .ok (.aload_n 0, 1) := by decide +kernel
theorem dX12_goesIn_9 : decode cX12_goesIn 9 = .ok (.invokevirtual 142, 3) := by decide +kernel
theorem dX12_goesIn_12 : decode cX12_goesIn 12 = .ok (.ifCond .eq 32, 3) := by decide +kernel
theorem dX12_goesIn_15 : decode cX12_goesIn 15 = .ok (.aload_n 0, 1) := by decide +kernel
theorem dX12_goesIn_16 : decode cX12_goesIn 16 = .ok (.iload_n 1, 1) := by decide +kernel
theorem dX12_goesIn_17 : decode cX12_goesIn 17 = .ok (.iconst 0, 1) := by decide +kernel
theorem dX12_goesIn_18 : decode cX12_goesIn 18 = .ok (.invokevirtual 135, 3) := by decide +kernel
theorem dX12_goesIn_21 : decode cX12_goesIn 21 = .ok (.ifCond .eq 14, 3) := by decide +kernel
theorem dX12_goesIn_24 : decode cX12_goesIn 24 = .ok (.aload_n 0, 1) := by decide +kernel
theorem dX12_goesIn_25 : decode cX12_goesIn 25 = .ok (.getfield 7, 3) := by decide +kernel
theorem dX12_goesIn_28 : decode cX12_goesIn 28 = .ok (.bipush 7, 2) := by decide +kernel
theorem dX12_goesIn_30 : decode cX12_goesIn 30 = .ok (.iaload, 1) := by decide +kernel
theorem dX12_goesIn_31 : decode cX12_goesIn 31 = .ok (.ineg, 1) := by decide +kernel
theorem dX12_goesIn_32 : decode cX12_goesIn 32 = .ok (.goto 13, 3) := by decide +kernel
theorem dX12_goesIn_35 : decode cX12_goesIn 35 = .ok (.aload_n 0, 1) := by decide +kernel
theorem dX12_goesIn_36 : decode cX12_goesIn 36 = .ok (.getfield 7, 3) := by decide +kernel
theorem dX12_goesIn_39 : decode cX12_goesIn 39 = .ok (.iconst 4, 1) := by decide +kernel
theorem dX12_goesIn_40 : decode cX12_goesIn 40 = .ok (.iaload, 1) := by decide +kernel
theorem dX12_goesIn_41 : decode cX12_goesIn 41 = .ok (.goto 4, 3) := by decide +kernel
theorem dX12_goesIn_44 : decode cX12_goesIn 44 = .ok (.iconst 0, 1) := by decide +kernel
theorem dX12_goesIn_45 : decode cX12_goesIn 45 = .ok (.ireturn, 1) := by decide +kernel
theorem dX12_goesIn_46 : decode cX12_goesIn 46 = .ok (.aload_n 0, 1) := by decide +kernel
theorem dX12_goesIn_47 : decode cX12_goesIn 47 = .ok (.iload_n 1, 1) := by decide +kernel
theorem dX12_goesIn_48 : decode cX12_goesIn 48 = .ok (.iconst 0, 1) := by decide +kernel
theorem dX12_goesIn_49 : decode cX12_goesIn 49 = .ok (.invokevirtual 135, 3) := by decide +kernel
theorem dX12_goesIn_52 : decode cX12_goesIn 52 = .ok (.ifCond .eq 21, 3) := by decide +kernel
theorem dX12_goesIn_55 : decode cX12_goesIn 55 = .ok (.aload_n 0, 1) := by decide +kernel
theorem dX12_goesIn_56 : decode cX12_goesIn 56 = .ok (.iload_n 1, 1) := by decide +kernel
theorem dX12_goesIn_57 : decode cX12_goesIn 57 = .ok (.iconst 1, 1) := by decide +kernel
theorem dX12_goesIn_58 : decode cX12_goesIn 58 = .ok (.invokevirtual 135, 3) := by decide +kernel
theorem dX12_goesIn_61 : decode cX12_goesIn 61 = .ok (.ifCond .ne 12, 3) := by decide +kernel
theorem dX12_goesIn_64 : decode cX12_goesIn 64 = .ok (.aload_n 0, 1) := by decide +kernel
theorem dX12_goesIn_65 : decode cX12_goesIn 65 = .ok (.getfield 7, 3) := by decide +kernel
theorem dX12_goesIn_68 : decode cX12_goesIn 68 = .ok (.iconst 2, 1) := by decide +kernel
theorem dX12_goesIn_69 : decode cX12_goesIn 69 = .ok (.iaload, 1) := by decide +kernel
theorem dX12_goesIn_70 : decode cX12_goesIn 70 = .ok (.goto 32, 3) := by decide +kernel
theorem dX12_goesIn_73 : decode cX12_goesIn 73 = .ok (.aload_n 0, 1) := by decide +kernel
theorem dX12_goesIn_74 : decode cX12_goesIn 74 = .ok (.iload_n 1, 1) := by decide +kernel
theorem dX12_goesIn_75 : decode cX12_goesIn 75 = .ok (.iconst 1, 1) := by decide +kernel
theorem dX12_goesIn_76 : decode cX12_goesIn 76 = .ok (.invokevirtual 135, 3) := by decide +kernel
theorem dX12_goesIn_79 : decode cX12_goesIn 79 = .ok (.ifCond .eq 22, 3) := by decide +kernel
theorem dX12_goesIn_82 : decode cX12_goesIn 82 = .ok (.aload_n 0, 1) := by decide +kernel
theorem dX12_goesIn_83 : decode cX12_goesIn 83 = .ok (.iload_n 1, 1) := by decide +kernel
theorem dX12_goesIn_84 : decode cX12_goesIn 84 = .ok (.iconst 0, 1) := by decide +kernel
theorem dX12_goesIn_85 : decode cX12_goesIn 85 = .ok (.invokevirtual 135, 3) := by decide +kernel
theorem dX12_goesIn_88 : decode cX12_goesIn 88 = .ok (.ifCond .ne 13, 3) := by decide +kernel
theorem dX12_goesIn_91 : decode cX12_goesIn 91 = .ok (.aload_n 0, 1) := by decide +kernel
theorem dX12_goesIn_92 : decode cX12_goesIn 92 = .ok (.getfield 7, 3) := by decide +kernel
theorem dX12_goesIn_95 : decode cX12_goesIn 95 = .ok (.iconst 3, 1) := by decide +kernel
theorem dX12_goesIn_96 : decode cX12_goesIn 96 = .ok (.iaload, 1) := by decide +kernel
theorem dX12_goesIn_97 : decode cX12_goesIn 97 = .ok (.ineg, 1) := by decide +kernel
theorem dX12_goesIn_98 : decode cX12_goesIn 98 = .ok (.goto 4, 3) := by decide +kernel
theorem dX12_goesIn_101 : decode cX12_goesIn 101 = .ok (.iconst 0, 1) := by decide +kernel
theorem dX12_goesIn_102 : decode cX12_goesIn 102 = .ok (.ireturn, 1) := by decide +kernel
theorem dX12_through_0 : decode cX12_through 0 = .ok (.aload_n 0, 1) := by decide +kernel
theorem dX12_through_1 : decode cX12_through 1 = .ok (.iload_n 1, 1) := by decide +kernel
theorem dX12_through_2 : decode cX12_through 2 = .ok (.invokevirtual 150, 3) := by decide +kernel
theorem dX12_through_5 : decode cX12_through 5 = .ok (.ifCond .eq 13, 3) := by decide +kernel
theorem dX12_through_8 : decode cX12_through 8 = .ok (.iload_n 2, 1) := by decide +kernel
theorem dX12_through_9 : decode cX12_through 9 = .ok (.i2l, 1) := by decide +kernel
theorem dX12_through_10 : decode cX12_through 10 = .ok (.lconst 0, 1) := by decide +kernel
theorem dX12_through_11 : decode cX12_through 11 = .ok (.lconst 1, 1) := by decide +kernel
theorem dX12_through_12 : decode cX12_through 12 = .ok (.invokestatic 72, 3) := by decide +kernel
theorem dX12_through_15 : decode cX12_through 15 = .ok (.ifCond .ne 7, 3) := by decide +kernel
theorem dX12_through_18 : decode cX12_through 18 = .ok (.ldc2_w 200, 3) := by decide +kernel
theorem dX12_through_21 : decode cX12_through 21 = .ok (.lreturn, 1) := by decide +kernel
theorem dX12_through_22 : decode cX12_through 22 = .ok (.aload_n 0, 1) := by decide +kernel
theorem dX12_through_23 : decode cX12_through 23 = .ok (.iload_n 1, 1) := by decide +kernel
theorem dX12_through_24 : decode cX12_through 24 = .ok (.invokevirtual 189, 3) := by decide +kernel
theorem dX12_through_27 : decode cX12_through 27 = .ok (.istore_n 3, 1) := by decide +kernel
theorem dX12_through_28 : decode cX12_through 28 = .ok (.iload_n 3, 1) := by decide +kernel
theorem dX12_through_29 : decode cX12_through 29 = .ok (.ifCond .ge 9, 3) := by decide +kernel
theorem dX12_through_32 : decode cX12_through 32 = .ok (.bipush (-100), 2) := by decide +kernel
theorem dX12_through_34 : decode cX12_through 34 = .ok (.iload_n 3, 1) := by decide +kernel
theorem dX12_through_35 : decode cX12_through 35 = .ok (.iadd, 1) := by decide +kernel
theorem dX12_through_36 : decode cX12_through 36 = .ok (.i2l, 1) := by decide +kernel
theorem dX12_through_37 : decode cX12_through 37 = .ok (.lreturn, 1) := by decide +kernel
theorem dX12_through_38 : decode cX12_through 38 = .ok (.lconst 0, 1) := by decide +kernel
theorem dX12_through_39 : decode cX12_through 39 = .ok (.lstore 4, 2) := by decide +kernel
theorem dX12_through_41 : decode cX12_through 41 = .ok (.iconst 0, 1) := by decide +kernel
theorem dX12_through_42 : decode cX12_through 42 = .ok (.istore 6, 2) := by decide +kernel
theorem dX12_through_44 : decode cX12_through 44 = .ok (.iload 6, 2) := by decide +kernel
theorem dX12_through_46 : decode cX12_through 46 = .ok (.aload_n 0, 1) := by decide +kernel
theorem dX12_through_47 : decode cX12_through 47 = .ok (.getfield 178, 3) := by decide +kernel
theorem dX12_through_50 : decode cX12_through 50 = .ok (.if_icmp .ge 34, 3) := by decide +kernel
theorem dX12_through_53 : decode cX12_through 53 = .ok (.lload 4, 2) := by decide +kernel
theorem dX12_through_55 : decode cX12_through 55 = .ok (.aload_n 0, 1) := by decide +kernel
theorem dX12_through_56 : decode cX12_through 56 = .ok (.getfield 32, 3) := by decide +kernel
theorem dX12_through_59 : decode cX12_through 59 = .ok (.iload 6, 2) := by decide +kernel
theorem dX12_through_61 : decode cX12_through 61 = .ok (.laload, 1) := by decide +kernel
theorem dX12_through_62 : decode cX12_through 62 = .ok (.aload_n 0, 1) := by decide +kernel
theorem dX12_through_63 : decode cX12_through 63 = .ok (.aload_n 0, 1) := by decide +kernel
theorem dX12_through_64 : decode cX12_through 64 = .ok (.getfield 29, 3) := by decide +kernel
theorem dX12_through_67 : decode cX12_through 67 = .ok (.iload 6, 2) := by decide +kernel
theorem dX12_through_69 : decode cX12_through 69 = .ok (.iaload, 1) := by decide +kernel
theorem dX12_through_70 : decode cX12_through 70 = .ok (.invokevirtual 202, 3) := by decide +kernel
theorem dX12_through_73 : decode cX12_through 73 = .ok (.i2l, 1) := by decide +kernel
theorem dX12_through_74 : decode cX12_through 74 = .ok (.lmul, 1) := by decide +kernel
theorem dX12_through_75 : decode cX12_through 75 = .ok (.ladd, 1) := by decide +kernel
theorem dX12_through_76 : decode cX12_through 76 = .ok (.lstore 4, 2) := by decide +kernel
theorem dX12_through_78 : decode cX12_through 78 = .ok (.iinc 6 1, 3) := by decide +kernel
theorem dX12_through_81 : decode cX12_through 81 = .ok (.goto (-37), 3) := by decide +kernel
theorem dX12_through_84 : decode cX12_through 84 = .ok (.lload 4, 2) := by decide +kernel
theorem dX12_through_86 : decode cX12_through 86 = .ok (.aload_n 0, 1) := by decide +kernel
theorem dX12_through_87 : decode cX12_through 87 = .ok (.invokevirtual 192, 3) := by decide +kernel
theorem dX12_through_90 : decode cX12_through 90 = .ok (.iload_n 2, 1) := by decide +kernel
theorem dX12_through_91 : decode cX12_through 91 = .ok (.invokestatic 196, 3) := by decide +kernel
theorem dX12_through_94 : decode cX12_through 94 = .ok (.lreturn, 1) := by decide +kernel
theorem dX12_even_0 : decode cX12_even 0 = .ok (.aload_n 0, 1) := by decide +kernel
theorem dX12_even_1 : decode cX12_even 1 = .ok (.iload_n 1, 1) := by decide +kernel
theorem dX12_even_2 : decode cX12_even 2 = .ok (.invokevirtual 150, 3) := by decide +kernel
theorem dX12_even_5 : decode cX12_even 5 = .ok (.ifCond .ne 5, 3) := by decide +kernel
theorem dX12_even_8 : decode cX12_even 8 = .ok (.iconst (-1), 1) := by decide +kernel
theorem dX12_even_9 : decode cX12_even 9 = .ok (.ireturn, 1) := by decide +kernel
theorem dX12_even_10 : decode cX12_even 10 = .ok (.aload_n 0, 1) := by decide +kernel
theorem dX12_even_11 : decode cX12_even 11 = .ok (.iload_n 1, 1) := by decide +kernel
theorem dX12_even_12 : decode cX12_even 12 = .ok (.invokevirtual 189, 3) := by decide +kernel
theorem dX12_even_15 : decode cX12_even 15 = .ok (.istore_n 2, 1) := by decide +kernel
theorem dX12_even_16 : decode cX12_even 16 = .ok (.iload_n 2, 1) := by decide +kernel
theorem dX12_even_17 : decode cX12_even 17 = .ok (.ifCond .ge 5, 3) := by decide +kernel
theorem dX12_even_20 : decode cX12_even 20 = .ok (.iload_n 2, 1) := by decide +kernel
theorem dX12_even_21 : decode cX12_even 21 = .ok (.ireturn, 1) := by decide +kernel
theorem dX12_even_22 : decode cX12_even 22 = .ok (.iconst 1, 1) := by decide +kernel
theorem dX12_even_23 : decode cX12_even 23 = .ok (.istore_n 3, 1) := by decide +kernel
theorem dX12_even_24 : decode cX12_even 24 = .ok (.iconst 0, 1) := by decide +kernel
theorem dX12_even_25 : decode cX12_even 25 = .ok (.istore 4, 2) := by decide +kernel
theorem dX12_even_27 : decode cX12_even 27 = .ok (.iload 4, 2) := by decide +kernel
theorem dX12_even_29 : decode cX12_even 29 = .ok (.aload_n 0, 1) := by decide +kernel
theorem dX12_even_30 : decode cX12_even 30 = .ok (.getfield 178, 3) := by decide +kernel
theorem dX12_even_33 : decode cX12_even 33 = .ok (.if_icmp .ge 93, 3) := by decide +kernel
theorem dX12_even_36 : decode cX12_even 36 = .ok (.iconst 0, 1) := by decide +kernel
theorem dX12_even_37 : decode cX12_even 37 = .ok (.istore 5, 2) := by decide +kernel
theorem dX12_even_39 : decode cX12_even 39 = .ok (.iload 5, 2) := by decide +kernel
theorem dX12_even_41 : decode cX12_even 41 = .ok (.iload 4, 2) := by decide +kernel
theorem dX12_even_43 : decode cX12_even 43 = .ok (.if_icmp .ge 77, 3) := by decide +kernel
theorem dX12_even_46 : decode cX12_even 46 = .ok (.iload_n 3, 1) := by decide +kernel
theorem dX12_even_47 : decode cX12_even 47 = .ok (.ifCond .eq 65, 3) := by decide +kernel
theorem dX12_even_50 : decode cX12_even 50 = .ok (.aload_n 0, 1) := by decide +kernel
theorem dX12_even_51 : decode cX12_even 51 = .ok (.getfield 32, 3) := by decide +kernel
theorem dX12_even_54 : decode cX12_even 54 = .ok (.iload 4, 2) := by decide +kernel
theorem dX12_even_56 : decode cX12_even 56 = .ok (.laload, 1) := by decide +kernel
theorem dX12_even_57 : decode cX12_even 57 = .ok (.aload_n 0, 1) := by decide +kernel
theorem dX12_even_58 : decode cX12_even 58 = .ok (.aload_n 0, 1) := by decide +kernel
theorem dX12_even_59 : decode cX12_even 59 = .ok (.getfield 29, 3) := by decide +kernel
theorem dX12_even_62 : decode cX12_even 62 = .ok (.iload 4, 2) := by decide +kernel
theorem dX12_even_64 : decode cX12_even 64 = .ok (.iaload, 1) := by decide +kernel
theorem dX12_even_65 : decode cX12_even 65 = .ok (.aload_n 0, 1) := by decide +kernel
theorem dX12_even_66 : decode cX12_even 66 = .ok (.getfield 29, 3) := by decide +kernel
theorem dX12_even_69 : decode cX12_even 69 = .ok (.iload 5, 2) := by decide +kernel
theorem dX12_even_71 : decode cX12_even 71 = .ok (.iaload, 1) := by decide +kernel
theorem dX12_even_72 : decode cX12_even 72 = .ok (.invokevirtual 154, 3) := by decide +kernel
theorem dX12_even_75 : decode cX12_even 75 = .ok (.i2l, 1) := by decide +kernel
theorem dX12_even_76 : decode cX12_even 76 = .ok (.lmul, 1) := by decide +kernel
theorem dX12_even_77 : decode cX12_even 77 = .ok (.aload_n 0, 1) := by decide +kernel
theorem dX12_even_78 : decode cX12_even 78 = .ok (.getfield 32, 3) := by decide +kernel
theorem dX12_even_81 : decode cX12_even 81 = .ok (.iload 5, 2) := by decide +kernel
theorem dX12_even_83 : decode cX12_even 83 = .ok (.laload, 1) := by decide +kernel
theorem dX12_even_84 : decode cX12_even 84 = .ok (.aload_n 0, 1) := by decide +kernel
theorem dX12_even_85 : decode cX12_even 85 = .ok (.aload_n 0, 1) := by decide +kernel
theorem dX12_even_86 : decode cX12_even 86 = .ok (.getfield 29, 3) := by decide +kernel
theorem dX12_even_89 : decode cX12_even 89 = .ok (.iload 5, 2) := by decide +kernel
theorem dX12_even_91 : decode cX12_even 91 = .ok (.iaload, 1) := by decide +kernel
theorem dX12_even_92 : decode cX12_even 92 = .ok (.aload_n 0, 1) := by decide +kernel
theorem dX12_even_93 : decode cX12_even 93 = .ok (.getfield 29, 3) := by decide +kernel
theorem dX12_even_96 : decode cX12_even 96 = .ok (.iload 4, 2) := by decide +kernel
theorem dX12_even_98 : decode cX12_even 98 = .ok (.iaload, 1) := by decide +kernel
theorem dX12_even_99 : decode cX12_even 99 = .ok (.invokevirtual 154, 3) := by decide +kernel
theorem dX12_even_102 : decode cX12_even 102 = .ok (.i2l, 1) := by decide +kernel
theorem dX12_even_103 : decode cX12_even 103 = .ok (.lmul, 1) := by decide +kernel
theorem dX12_even_104 : decode cX12_even 104 = .ok (.lcmp, 1) := by decide +kernel
theorem dX12_even_105 : decode cX12_even 105 = .ok (.ifCond .ne 7, 3) := by decide +kernel
theorem dX12_even_108 : decode cX12_even 108 = .ok (.iconst 1, 1) := by decide +kernel
theorem dX12_even_109 : decode cX12_even 109 = .ok (.goto 4, 3) := by decide +kernel
theorem dX12_even_112 : decode cX12_even 112 = .ok (.iconst 0, 1) := by decide +kernel
theorem dX12_even_113 : decode cX12_even 113 = .ok (.istore_n 3, 1) := by decide +kernel
theorem dX12_even_114 : decode cX12_even 114 = .ok (.iinc 5 1, 3) := by decide +kernel
theorem dX12_even_117 : decode cX12_even 117 = .ok (.goto (-78), 3) := by decide +kernel
theorem dX12_even_120 : decode cX12_even 120 = .ok (.iinc 4 1, 3) := by decide +kernel
theorem dX12_even_123 : decode cX12_even 123 = .ok (.goto (-96), 3) := by decide +kernel
theorem dX12_even_126 : decode cX12_even 126 = .ok (.iload_n 3, 1) := by decide +kernel
theorem dX12_even_127 : decode cX12_even 127 = .ok (.ifCond .eq 7, 3) := by decide +kernel
theorem dX12_even_130 : decode cX12_even 130 = .ok (.iconst 1, 1) := by decide +kernel
theorem dX12_even_131 : decode cX12_even 131 = .ok (.goto 4, 3) := by decide +kernel
theorem dX12_even_134 : decode cX12_even 134 = .ok (.iconst 0, 1) := by decide +kernel
theorem dX12_even_135 : decode cX12_even 135 = .ok (.ireturn, 1) := by decide +kernel
theorem dX12_haveWords_0 : decode cX12_haveWords 0 = .ok (.aload_n 0, 1) := by decide +kernel
theorem dX12_haveWords_1 : decode cX12_haveWords 1 = .ok (.invokevirtual 142, 3) := by decide +kernel
theorem dX12_haveWords_4 : decode cX12_haveWords 4 = .ok (.ifCond .eq 64, 3) := by decide +kernel
theorem dX12_haveWords_7 : decode cX12_haveWords 7 = .ok (.aload_n 0, 1) := by decide +kernel
theorem dX12_haveWords_8 : decode cX12_haveWords 8 = .ok (.getfield 7, 3) := by decide +kernel
theorem dX12_haveWords_11 : decode cX12_haveWords 11 = .ok (.iconst 2, 1) := by decide +kernel
theorem dX12_haveWords_12 : decode cX12_haveWords 12 = .ok (.iaload, 1) := by decide +kernel
theorem dX12_haveWords_13 : decode cX12_haveWords 13 = .ok (.iconst 1, 1) := by decide +kernel
theorem dX12_haveWords_14 : decode cX12_haveWords 14 = .ok (.if_icmp .ne 54, 3) := by decide +kernel
theorem dX12_haveWords_17 : decode cX12_haveWords 17 = .ok (.aload_n 0, 1) := by decide +kernel
theorem dX12_haveWords_18 : decode cX12_haveWords 18 = .ok (.getfield 7, 3) := by decide +kernel
theorem dX12_haveWords_21 : decode cX12_haveWords 21 = .ok (.iconst 3, 1) := by decide +kernel
theorem dX12_haveWords_22 : decode cX12_haveWords 22 = .ok (.iaload, 1) := by decide +kernel
theorem dX12_haveWords_23 : decode cX12_haveWords 23 = .ok (.ifCond .ne 45, 3) := by decide +kernel
theorem dX12_haveWords_26 : decode cX12_haveWords 26 = .ok (.aload_n 0, 1) := by decide +kernel
theorem dX12_haveWords_27 : decode cX12_haveWords 27 = .ok (.getfield 7, 3) := by decide +kernel
theorem dX12_haveWords_30 : decode cX12_haveWords 30 = .ok (.iconst 5, 1) := by decide +kernel
theorem dX12_haveWords_31 : decode cX12_haveWords 31 = .ok (.iaload, 1) := by decide +kernel
theorem dX12_haveWords_32 : decode cX12_haveWords 32 = .ok (.ifCond .ne 36, 3) := by decide +kernel
theorem dX12_haveWords_35 : decode cX12_haveWords 35 = .ok (.aload_n 0, 1) := by decide +kernel
theorem dX12_haveWords_36 : decode cX12_haveWords 36 = .ok (.getfield 7, 3) := by decide +kernel
theorem dX12_haveWords_39 : decode cX12_haveWords 39 = .ok (.bipush 7, 2) := by decide +kernel
theorem dX12_haveWords_41 : decode cX12_haveWords 41 = .ok (.iaload, 1) := by decide +kernel
theorem dX12_haveWords_42 : decode cX12_haveWords 42 = .ok (.ifCond .ne 26, 3) := by decide +kernel
theorem dX12_haveWords_45 : decode cX12_haveWords 45 = .ok (.aload_n 0, 1) := by decide +kernel
theorem dX12_haveWords_46 : decode cX12_haveWords 46 = .ok (.getfield 7, 3) := by decide +kernel
theorem dX12_haveWords_49 : decode cX12_haveWords 49 = .ok (.iconst 4, 1) := by decide +kernel
theorem dX12_haveWords_50 : decode cX12_haveWords 50 = .ok (.iaload, 1) := by decide +kernel
theorem dX12_haveWords_51 : decode cX12_haveWords 51 = .ok (.ifCond .le 17, 3) := by decide +kernel
theorem dX12_haveWords_54 : decode cX12_haveWords 54 = .ok (.aload_n 0, 1) := by decide +kernel
theorem dX12_haveWords_55 : decode cX12_haveWords 55 = .ok (.getfield 7, 3) := by decide +kernel
theorem dX12_haveWords_58 : decode cX12_haveWords 58 = .ok (.bipush 6, 2) := by decide +kernel
theorem dX12_haveWords_60 : decode cX12_haveWords 60 = .ok (.iaload, 1) := by decide +kernel
theorem dX12_haveWords_61 : decode cX12_haveWords 61 = .ok (.ifCond .le 7, 3) := by decide +kernel
theorem dX12_haveWords_64 : decode cX12_haveWords 64 = .ok (.iconst 1, 1) := by decide +kernel
theorem dX12_haveWords_65 : decode cX12_haveWords 65 = .ok (.goto 4, 3) := by decide +kernel
theorem dX12_haveWords_68 : decode cX12_haveWords 68 = .ok (.iconst 0, 1) := by decide +kernel
theorem dX12_haveWords_69 : decode cX12_haveWords 69 = .ok (.ireturn, 1) := by decide +kernel
theorem dX12_without_0 : decode cX12_without 0 = .ok (.iload_n 0, 1) := by decide +kernel
theorem dX12_without_1 : decode cX12_without 1 = .ok (.iconst 1, 1) := by decide +kernel
theorem dX12_without_2 : decode cX12_without 2 = .ok (.iload_n 1, 1) := by decide +kernel
theorem dX12_without_3 : decode cX12_without 3 = .ok (.ishl, 1) := by decide +kernel
theorem dX12_without_4 : decode cX12_without 4 = .ok (.iconst 1, 1) := by decide +kernel
theorem dX12_without_5 : decode cX12_without 5 = .ok (.isub, 1) := by decide +kernel
theorem dX12_without_6 : decode cX12_without 6 = .ok (.iand, 1) := by decide +kernel
theorem dX12_without_7 : decode cX12_without 7 = .ok (.iload_n 0, 1) := by decide +kernel
theorem dX12_without_8 : decode cX12_without 8 = .ok (.iload_n 1, 1) := by decide +kernel
theorem dX12_without_9 : decode cX12_without 9 = .ok (.iconst 1, 1) := by decide +kernel
theorem dX12_without_10 : decode cX12_without 10 = .ok (.iadd, 1) := by decide +kernel
theorem dX12_without_11 : decode cX12_without 11 = .ok (.ishr, 1) := by decide +kernel
theorem dX12_without_12 : decode cX12_without 12 = .ok (.iload_n 1, 1) := by decide +kernel
theorem dX12_without_13 : decode cX12_without 13 = .ok (.ishl, 1) := by decide +kernel
theorem dX12_without_14 : decode cX12_without 14 = .ok (.ior, 1) := by decide +kernel
theorem dX12_without_15 : decode cX12_without 15 = .ok (.ireturn, 1) := by decide +kernel
theorem dX12_layWorths_0 : decode cX12_layWorths 0 = .ok (.aload_n 0, 1) := by decide +kernel
theorem dX12_layWorths_1 : decode cX12_layWorths 1 = .ok (.getfield 7, 3) := by decide +kernel
theorem dX12_layWorths_4 : decode cX12_layWorths 4 = .ok (.iconst 4, 1) := by decide +kernel
theorem dX12_layWorths_5 : decode cX12_layWorths 5 = .ok (.iaload, 1) := by decide +kernel
theorem dX12_layWorths_6 : decode cX12_layWorths 6 = .ok (.istore_n 1, 1) := by decide +kernel
theorem dX12_layWorths_7 : decode cX12_layWorths 7 = .ok (.aload_n 0, 1) := by decide +kernel
theorem dX12_layWorths_8 : decode cX12_layWorths 8 = .ok (.getfield 7, 3) := by decide +kernel
theorem dX12_layWorths_11 : decode cX12_layWorths 11 = .ok (.bipush 6, 2) := by decide +kernel
theorem dX12_layWorths_13 : decode cX12_layWorths 13 = .ok (.iaload, 1) := by decide +kernel
theorem dX12_layWorths_14 : decode cX12_layWorths 14 = .ok (.istore_n 2, 1) := by decide +kernel
theorem dX12_layWorths_15 : decode cX12_layWorths 15 = .ok (.aload_n 0, 1) := by decide +kernel
theorem dX12_layWorths_16 : decode cX12_layWorths 16 = .ok (.getfield 38, 3) := by decide +kernel
theorem dX12_layWorths_19 : decode cX12_layWorths 19 = .ok (.iconst 1, 1) := by decide +kernel
theorem dX12_layWorths_20 : decode cX12_layWorths 20 = .ok (.lconst 1, 1) := by decide +kernel
theorem dX12_layWorths_21 : decode cX12_layWorths 21 = .ok (.lastore, 1) := by decide +kernel
theorem dX12_layWorths_22 : decode cX12_layWorths 22 = .ok (.iconst 1, 1) := by decide +kernel
theorem dX12_layWorths_23 : decode cX12_layWorths 23 = .ok (.istore_n 3, 1) := by decide +kernel
theorem dX12_layWorths_24 : decode cX12_layWorths 24 = .ok (.iload_n 3, 1) := by decide +kernel
theorem dX12_layWorths_25 : decode cX12_layWorths 25 = .ok (.aload_n 0, 1) := by decide +kernel
theorem dX12_layWorths_26 : decode cX12_layWorths 26 = .ok (.invokevirtual 139, 3) := by decide +kernel
theorem dX12_layWorths_29 : decode cX12_layWorths 29 = .ok (.if_icmp .gt 179, 3) := by decide +kernel
theorem dX12_layWorths_32 : decode cX12_layWorths 32 = .ok (.iconst 0, 1) := by decide +kernel
theorem dX12_layWorths_33 : decode cX12_layWorths 33 = .ok (.istore 4, 2) := by decide +kernel
theorem dX12_layWorths_35 : decode cX12_layWorths 35 = .ok (.iload 4, 2) := by decide +kernel
theorem dX12_layWorths_37 : decode cX12_layWorths 37 = .ok (.iconst 1, 1) := by decide +kernel
theorem dX12_layWorths_38 : decode cX12_layWorths 38 = .ok (.iload_n 3, 1) := by decide +kernel
theorem dX12_layWorths_39 : decode cX12_layWorths 39 = .ok (.ishl, 1) := by decide +kernel
theorem dX12_layWorths_40 : decode cX12_layWorths 40 = .ok (.if_icmp .ge 162, 3) := by decide +kernel
theorem dX12_layWorths_43 : decode cX12_layWorths 43 = .ok (.iconst 0, 1) := by decide +kernel
theorem dX12_layWorths_44 : decode cX12_layWorths 44 = .ok (.istore 5, 2) := by decide +kernel
theorem dX12_layWorths_46 : decode cX12_layWorths 46 = .ok (.iload 5, 2) := by decide +kernel
theorem dX12_layWorths_48 : decode cX12_layWorths 48 = .ok (.iconst 1, 1) := by decide +kernel
theorem dX12_layWorths_49 : decode cX12_layWorths 49 = .ok (.iadd, 1) := by decide +kernel
theorem dX12_layWorths_50 : decode cX12_layWorths 50 = .ok (.iload_n 3, 1) := by decide +kernel
theorem dX12_layWorths_51 : decode cX12_layWorths 51 = .ok (.if_icmp .ge 33, 3) := by decide +kernel
theorem dX12_layWorths_54 : decode cX12_layWorths 54 = .ok (.aload_n 0, 1) := by decide +kernel
theorem dX12_layWorths_55 : decode cX12_layWorths 55 = .ok (.iload 4, 2) := by decide +kernel
theorem dX12_layWorths_57 : decode cX12_layWorths 57 = .ok (.iload 5, 2) := by decide +kernel
theorem dX12_layWorths_59 : decode cX12_layWorths 59 = .ok (.invokevirtual 135, 3) := by decide +kernel
theorem dX12_layWorths_62 : decode cX12_layWorths 62 = .ok (.ifCond .eq 16, 3) := by decide +kernel
theorem dX12_layWorths_65 : decode cX12_layWorths 65 = .ok (.aload_n 0, 1) := by decide +kernel
theorem dX12_layWorths_66 : decode cX12_layWorths 66 = .ok (.iload 4, 2) := by decide +kernel
theorem dX12_layWorths_68 : decode cX12_layWorths 68 = .ok (.iload 5, 2) := by decide +kernel
theorem dX12_layWorths_70 : decode cX12_layWorths 70 = .ok (.iconst 1, 1) := by decide +kernel
theorem dX12_layWorths_71 : decode cX12_layWorths 71 = .ok (.iadd, 1) := by decide +kernel
theorem dX12_layWorths_72 : decode cX12_layWorths 72 = .ok (.invokevirtual 135, 3) := by decide +kernel
theorem dX12_layWorths_75 : decode cX12_layWorths 75 = .ok (.ifCond .eq 9, 3) := by decide +kernel
theorem dX12_layWorths_78 : decode cX12_layWorths 78 = .ok (.iinc 5 1, 3) := by decide +kernel
theorem dX12_layWorths_81 : decode cX12_layWorths 81 = .ok (.goto (-35), 3) := by decide +kernel
theorem dX12_layWorths_84 : decode cX12_layWorths 84 = .ok (.lconst 1, 1) := by decide +kernel
theorem dX12_layWorths_85 : decode cX12_layWorths 85 = .ok (.lstore 6, 2) := by decide +kernel
theorem dX12_layWorths_87 : decode cX12_layWorths 87 = .ok (.iload 5, 2) := by decide +kernel
theorem dX12_layWorths_89 : decode cX12_layWorths 89 = .ok (.iconst 1, 1) := by decide +kernel
theorem dX12_layWorths_90 : decode cX12_layWorths 90 = .ok (.iadd, 1) := by decide +kernel
theorem dX12_layWorths_91 : decode cX12_layWorths 91 = .ok (.iload_n 3, 1) := by decide +kernel
theorem dX12_layWorths_92 : decode cX12_layWorths 92 = .ok (.if_icmp .ge 53, 3) := by decide +kernel
theorem dX12_layWorths_95 : decode cX12_layWorths 95 = .ok (.iconst 1, 1) := by decide +kernel
theorem dX12_layWorths_96 : decode cX12_layWorths 96 = .ok (.iload_n 3, 1) := by decide +kernel
theorem dX12_layWorths_97 : decode cX12_layWorths 97 = .ok (.iconst 1, 1) := by decide +kernel
theorem dX12_layWorths_98 : decode cX12_layWorths 98 = .ok (.isub, 1) := by decide +kernel
theorem dX12_layWorths_99 : decode cX12_layWorths 99 = .ok (.ishl, 1) := by decide +kernel
theorem dX12_layWorths_100 : decode cX12_layWorths 100 = .ok (.istore 8, 2) := by decide +kernel
theorem dX12_layWorths_102 : decode cX12_layWorths 102 = .ok (.iload_n 1, 1) := by decide +kernel
theorem dX12_layWorths_103 : decode cX12_layWorths 103 = .ok (.iload_n 2, 1) := by decide +kernel
theorem dX12_layWorths_104 : decode cX12_layWorths 104 = .ok (.imul, 1) := by decide +kernel
theorem dX12_layWorths_105 : decode cX12_layWorths 105 = .ok (.i2l, 1) := by decide +kernel
theorem dX12_layWorths_106 : decode cX12_layWorths 106 = .ok (.aload_n 0, 1) := by decide +kernel
theorem dX12_layWorths_107 : decode cX12_layWorths 107 = .ok (.getfield 38, 3) := by decide +kernel
theorem dX12_layWorths_110 : decode cX12_layWorths 110 = .ok (.iload 8, 2) := by decide +kernel
theorem dX12_layWorths_112 : decode cX12_layWorths 112 = .ok (.iload 4, 2) := by decide +kernel
theorem dX12_layWorths_114 : decode cX12_layWorths 114 = .ok (.iload 5, 2) := by decide +kernel
theorem dX12_layWorths_116 : decode cX12_layWorths 116 = .ok (.invokestatic 205, 3) := by decide +kernel
theorem dX12_layWorths_119 : decode cX12_layWorths 119 = .ok (.iadd, 1) := by decide +kernel
theorem dX12_layWorths_120 : decode cX12_layWorths 120 = .ok (.laload, 1) := by decide +kernel
theorem dX12_layWorths_121 : decode cX12_layWorths 121 = .ok (.aload_n 0, 1) := by decide +kernel
theorem dX12_layWorths_122 : decode cX12_layWorths 122 = .ok (.getfield 38, 3) := by decide +kernel
theorem dX12_layWorths_125 : decode cX12_layWorths 125 = .ok (.iload 8, 2) := by decide +kernel
theorem dX12_layWorths_127 : decode cX12_layWorths 127 = .ok (.iload 4, 2) := by decide +kernel
theorem dX12_layWorths_129 : decode cX12_layWorths 129 = .ok (.iload 5, 2) := by decide +kernel
theorem dX12_layWorths_131 : decode cX12_layWorths 131 = .ok (.iconst 1, 1) := by decide +kernel
theorem dX12_layWorths_132 : decode cX12_layWorths 132 = .ok (.iadd, 1) := by decide +kernel
theorem dX12_layWorths_133 : decode cX12_layWorths 133 = .ok (.invokestatic 205, 3) := by decide +kernel
theorem dX12_layWorths_136 : decode cX12_layWorths 136 = .ok (.iadd, 1) := by decide +kernel
theorem dX12_layWorths_137 : decode cX12_layWorths 137 = .ok (.laload, 1) := by decide +kernel
theorem dX12_layWorths_138 : decode cX12_layWorths 138 = .ok (.ladd, 1) := by decide +kernel
theorem dX12_layWorths_139 : decode cX12_layWorths 139 = .ok (.lmul, 1) := by decide +kernel
theorem dX12_layWorths_140 : decode cX12_layWorths 140 = .ok (.lstore 6, 2) := by decide +kernel
theorem dX12_layWorths_142 : decode cX12_layWorths 142 = .ok (.goto 41, 3) := by decide +kernel
theorem dX12_layWorths_145 : decode cX12_layWorths 145 = .ok (.iconst 0, 1) := by decide +kernel
theorem dX12_layWorths_146 : decode cX12_layWorths 146 = .ok (.istore 8, 2) := by decide +kernel
theorem dX12_layWorths_148 : decode cX12_layWorths 148 = .ok (.iload 8, 2) := by decide +kernel
theorem dX12_layWorths_150 : decode cX12_layWorths 150 = .ok (.iload_n 3, 1) := by decide +kernel
theorem dX12_layWorths_151 : decode cX12_layWorths 151 = .ok (.if_icmp .ge 32, 3) := by decide +kernel
theorem dX12_layWorths_154 : decode cX12_layWorths 154 = .ok (.lload 6, 2) := by decide +kernel
theorem dX12_layWorths_156 : decode cX12_layWorths 156 = .ok (.aload_n 0, 1) := by decide +kernel
theorem dX12_layWorths_157 : decode cX12_layWorths 157 = .ok (.iload 4, 2) := by decide +kernel
theorem dX12_layWorths_159 : decode cX12_layWorths 159 = .ok (.iload 8, 2) := by decide +kernel
theorem dX12_layWorths_161 : decode cX12_layWorths 161 = .ok (.invokevirtual 135, 3) := by decide +kernel
theorem dX12_layWorths_164 : decode cX12_layWorths 164 = .ok (.ifCond .eq 8, 3) := by decide +kernel
theorem dX12_layWorths_167 : decode cX12_layWorths 167 = .ok (.iload_n 1, 1) := by decide +kernel
theorem dX12_layWorths_168 : decode cX12_layWorths 168 = .ok (.i2l, 1) := by decide +kernel
theorem dX12_layWorths_169 : decode cX12_layWorths 169 = .ok (.goto 5, 3) := by decide +kernel
theorem dX12_layWorths_172 : decode cX12_layWorths 172 = .ok (.iload_n 2, 1) := by decide +kernel
theorem dX12_layWorths_173 : decode cX12_layWorths 173 = .ok (.i2l, 1) := by decide +kernel
theorem dX12_layWorths_174 : decode cX12_layWorths 174 = .ok (.lmul, 1) := by decide +kernel
theorem dX12_layWorths_175 : decode cX12_layWorths 175 = .ok (.lstore 6, 2) := by decide +kernel
theorem dX12_layWorths_177 : decode cX12_layWorths 177 = .ok (.iinc 8 1, 3) := by decide +kernel
theorem dX12_layWorths_180 : decode cX12_layWorths 180 = .ok (.goto (-32), 3) := by decide +kernel
theorem dX12_layWorths_183 : decode cX12_layWorths 183 = .ok (.aload_n 0, 1) := by decide +kernel
theorem dX12_layWorths_184 : decode cX12_layWorths 184 = .ok (.getfield 38, 3) := by decide +kernel
theorem dX12_layWorths_187 : decode cX12_layWorths 187 = .ok (.iconst 1, 1) := by decide +kernel
theorem dX12_layWorths_188 : decode cX12_layWorths 188 = .ok (.iload_n 3, 1) := by decide +kernel
theorem dX12_layWorths_189 : decode cX12_layWorths 189 = .ok (.ishl, 1) := by decide +kernel
theorem dX12_layWorths_190 : decode cX12_layWorths 190 = .ok (.iload 4, 2) := by decide +kernel
theorem dX12_layWorths_192 : decode cX12_layWorths 192 = .ok (.iadd, 1) := by decide +kernel
theorem dX12_layWorths_193 : decode cX12_layWorths 193 = .ok (.lload 6, 2) := by decide +kernel
theorem dX12_layWorths_195 : decode cX12_layWorths 195 = .ok (.lastore, 1) := by decide +kernel
theorem dX12_layWorths_196 : decode cX12_layWorths 196 = .ok (.iinc 4 1, 3) := by decide +kernel
theorem dX12_layWorths_199 : decode cX12_layWorths 199 = .ok (.goto (-164), 3) := by decide +kernel
theorem dX12_layWorths_202 : decode cX12_layWorths 202 = .ok (.iinc 3 1, 3) := by decide +kernel
theorem dX12_layWorths_205 : decode cX12_layWorths 205 = .ok (.goto (-181), 3) := by decide +kernel
theorem dX12_layWorths_208 : decode cX12_layWorths 208 = .ok (.return_, 1) := by decide +kernel
theorem dX12_allOf_0 : decode cX12_allOf 0 = .ok (.lconst 0, 1) := by decide +kernel
theorem dX12_allOf_1 : decode cX12_allOf 1 = .ok (.lstore_n 2, 1) := by decide +kernel
theorem dX12_allOf_2 : decode cX12_allOf 2 = .ok (.iconst 0, 1) := by decide +kernel
theorem dX12_allOf_3 : decode cX12_allOf 3 = .ok (.istore 4, 2) := by decide +kernel
theorem dX12_allOf_5 : decode cX12_allOf 5 = .ok (.iload 4, 2) := by decide +kernel
theorem dX12_allOf_7 : decode cX12_allOf 7 = .ok (.iconst 1, 1) := by decide +kernel
theorem dX12_allOf_8 : decode cX12_allOf 8 = .ok (.iload_n 1, 1) := by decide +kernel
theorem dX12_allOf_9 : decode cX12_allOf 9 = .ok (.ishl, 1) := by decide +kernel
theorem dX12_allOf_10 : decode cX12_allOf 10 = .ok (.if_icmp .ge 23, 3) := by decide +kernel
theorem dX12_allOf_13 : decode cX12_allOf 13 = .ok (.lload_n 2, 1) := by decide +kernel
theorem dX12_allOf_14 : decode cX12_allOf 14 = .ok (.aload_n 0, 1) := by decide +kernel
theorem dX12_allOf_15 : decode cX12_allOf 15 = .ok (.getfield 38, 3) := by decide +kernel
theorem dX12_allOf_18 : decode cX12_allOf 18 = .ok (.iconst 1, 1) := by decide +kernel
theorem dX12_allOf_19 : decode cX12_allOf 19 = .ok (.iload_n 1, 1) := by decide +kernel
theorem dX12_allOf_20 : decode cX12_allOf 20 = .ok (.ishl, 1) := by decide +kernel
theorem dX12_allOf_21 : decode cX12_allOf 21 = .ok (.iload 4, 2) := by decide +kernel
theorem dX12_allOf_23 : decode cX12_allOf 23 = .ok (.iadd, 1) := by decide +kernel
theorem dX12_allOf_24 : decode cX12_allOf 24 = .ok (.laload, 1) := by decide +kernel
theorem dX12_allOf_25 : decode cX12_allOf 25 = .ok (.ladd, 1) := by decide +kernel
theorem dX12_allOf_26 : decode cX12_allOf 26 = .ok (.lstore_n 2, 1) := by decide +kernel
theorem dX12_allOf_27 : decode cX12_allOf 27 = .ok (.iinc 4 1, 3) := by decide +kernel
theorem dX12_allOf_30 : decode cX12_allOf 30 = .ok (.goto (-25), 3) := by decide +kernel
theorem dX12_allOf_33 : decode cX12_allOf 33 = .ok (.lload_n 2, 1) := by decide +kernel
theorem dX12_allOf_34 : decode cX12_allOf 34 = .ok (.lreturn, 1) := by decide +kernel
theorem dX12_worth_0 : decode cX12_worth 0 = .ok (.aload_n 0, 1) := by decide +kernel
theorem dX12_worth_1 : decode cX12_worth 1 = .ok (.iload_n 1, 1) := by decide +kernel
theorem dX12_worth_2 : decode cX12_worth 2 = .ok (.invokevirtual 150, 3) := by decide +kernel
theorem dX12_worth_5 : decode cX12_worth 5 = .ok (.ifCond .ne 7, 3) := by decide +kernel
theorem dX12_worth_8 : decode cX12_worth 8 = .ok (.ldc2_w 187, 3) := by decide +kernel
theorem dX12_worth_11 : decode cX12_worth 11 = .ok (.lreturn, 1) := by decide +kernel
theorem dX12_worth_12 : decode cX12_worth 12 = .ok (.aload_n 0, 1) := by decide +kernel
theorem dX12_worth_13 : decode cX12_worth 13 = .ok (.invokevirtual 208, 3) := by decide +kernel
theorem dX12_worth_16 : decode cX12_worth 16 = .ok (.ifCond .ne 7, 3) := by decide +kernel
theorem dX12_worth_19 : decode cX12_worth 19 = .ok (.ldc2_w 211, 3) := by decide +kernel
theorem dX12_worth_22 : decode cX12_worth 22 = .ok (.lreturn, 1) := by decide +kernel
theorem dX12_worth_23 : decode cX12_worth 23 = .ok (.aload_n 0, 1) := by decide +kernel
theorem dX12_worth_24 : decode cX12_worth 24 = .ok (.invokevirtual 213, 3) := by decide +kernel
theorem dX12_worth_27 : decode cX12_worth 27 = .ok (.aload_n 0, 1) := by decide +kernel
theorem dX12_worth_28 : decode cX12_worth 28 = .ok (.getfield 38, 3) := by decide +kernel
theorem dX12_worth_31 : decode cX12_worth 31 = .ok (.aload_n 0, 1) := by decide +kernel
theorem dX12_worth_32 : decode cX12_worth 32 = .ok (.invokevirtual 68, 3) := by decide +kernel
theorem dX12_worth_35 : decode cX12_worth 35 = .ok (.iload_n 1, 1) := by decide +kernel
theorem dX12_worth_36 : decode cX12_worth 36 = .ok (.iadd, 1) := by decide +kernel
theorem dX12_worth_37 : decode cX12_worth 37 = .ok (.laload, 1) := by decide +kernel
theorem dX12_worth_38 : decode cX12_worth 38 = .ok (.lreturn, 1) := by decide +kernel
theorem dX12_all_0 : decode cX12_all 0 = .ok (.iload_n 1, 1) := by decide +kernel
theorem dX12_all_1 : decode cX12_all 1 = .ok (.i2l, 1) := by decide +kernel
theorem dX12_all_2 : decode cX12_all 2 = .ok (.lconst 0, 1) := by decide +kernel
theorem dX12_all_3 : decode cX12_all 3 = .ok (.aload_n 0, 1) := by decide +kernel
theorem dX12_all_4 : decode cX12_all 4 = .ok (.invokevirtual 139, 3) := by decide +kernel
theorem dX12_all_7 : decode cX12_all 7 = .ok (.i2l, 1) := by decide +kernel
theorem dX12_all_8 : decode cX12_all 8 = .ok (.invokestatic 72, 3) := by decide +kernel
theorem dX12_all_11 : decode cX12_all 11 = .ok (.ifCond .ne 7, 3) := by decide +kernel
theorem dX12_all_14 : decode cX12_all 14 = .ok (.ldc2_w 187, 3) := by decide +kernel
theorem dX12_all_17 : decode cX12_all 17 = .ok (.lreturn, 1) := by decide +kernel
theorem dX12_all_18 : decode cX12_all 18 = .ok (.aload_n 0, 1) := by decide +kernel
theorem dX12_all_19 : decode cX12_all 19 = .ok (.invokevirtual 208, 3) := by decide +kernel
theorem dX12_all_22 : decode cX12_all 22 = .ok (.ifCond .ne 7, 3) := by decide +kernel
theorem dX12_all_25 : decode cX12_all 25 = .ok (.ldc2_w 211, 3) := by decide +kernel
theorem dX12_all_28 : decode cX12_all 28 = .ok (.lreturn, 1) := by decide +kernel
theorem dX12_all_29 : decode cX12_all 29 = .ok (.aload_n 0, 1) := by decide +kernel
theorem dX12_all_30 : decode cX12_all 30 = .ok (.invokevirtual 213, 3) := by decide +kernel
theorem dX12_all_33 : decode cX12_all 33 = .ok (.aload_n 0, 1) := by decide +kernel
theorem dX12_all_34 : decode cX12_all 34 = .ok (.iload_n 1, 1) := by decide +kernel
theorem dX12_all_35 : decode cX12_all 35 = .ok (.invokevirtual 216, 3) := by decide +kernel
theorem dX12_all_38 : decode cX12_all 38 = .ok (.lreturn, 1) := by decide +kernel
theorem dX12_flow_0 : decode cX12_flow 0 = .ok (.iload_n 1, 1) := by decide +kernel
theorem dX12_flow_1 : decode cX12_flow 1 = .ok (.i2l, 1) := by decide +kernel
theorem dX12_flow_2 : decode cX12_flow 2 = .ok (.lconst 0, 1) := by decide +kernel
theorem dX12_flow_3 : decode cX12_flow 3 = .ok (.lconst 1, 1) := by decide +kernel
theorem dX12_flow_4 : decode cX12_flow 4 = .ok (.invokestatic 72, 3) := by decide +kernel
theorem dX12_flow_7 : decode cX12_flow 7 = .ok (.ifCond .ne 7, 3) := by decide +kernel
theorem dX12_flow_10 : decode cX12_flow 10 = .ok (.ldc2_w 187, 3) := by decide +kernel
theorem dX12_flow_13 : decode cX12_flow 13 = .ok (.lreturn, 1) := by decide +kernel
theorem dX12_flow_14 : decode cX12_flow 14 = .ok (.aload_n 0, 1) := by decide +kernel
theorem dX12_flow_15 : decode cX12_flow 15 = .ok (.invokevirtual 208, 3) := by decide +kernel
theorem dX12_flow_18 : decode cX12_flow 18 = .ok (.ifCond .ne 7, 3) := by decide +kernel
theorem dX12_flow_21 : decode cX12_flow 21 = .ok (.ldc2_w 211, 3) := by decide +kernel
theorem dX12_flow_24 : decode cX12_flow 24 = .ok (.lreturn, 1) := by decide +kernel
theorem dX12_flow_25 : decode cX12_flow 25 = .ok (.aload_n 0, 1) := by decide +kernel
theorem dX12_flow_26 : decode cX12_flow 26 = .ok (.invokevirtual 213, 3) := by decide +kernel
theorem dX12_flow_29 : decode cX12_flow 29 = .ok (.aload_n 0, 1) := by decide +kernel
theorem dX12_flow_30 : decode cX12_flow 30 = .ok (.getfield 7, 3) := by decide +kernel
theorem dX12_flow_33 : decode cX12_flow 33 = .ok (.iconst 4, 1) := by decide +kernel
theorem dX12_flow_34 : decode cX12_flow 34 = .ok (.iaload, 1) := by decide +kernel
theorem dX12_flow_35 : decode cX12_flow 35 = .ok (.aload_n 0, 1) := by decide +kernel
theorem dX12_flow_36 : decode cX12_flow 36 = .ok (.getfield 7, 3) := by decide +kernel
theorem dX12_flow_39 : decode cX12_flow 39 = .ok (.bipush 6, 2) := by decide +kernel
theorem dX12_flow_41 : decode cX12_flow 41 = .ok (.iaload, 1) := by decide +kernel
theorem dX12_flow_42 : decode cX12_flow 42 = .ok (.imul, 1) := by decide +kernel
theorem dX12_flow_43 : decode cX12_flow 43 = .ok (.i2l, 1) := by decide +kernel
theorem dX12_flow_44 : decode cX12_flow 44 = .ok (.aload_n 0, 1) := by decide +kernel
theorem dX12_flow_45 : decode cX12_flow 45 = .ok (.aload_n 0, 1) := by decide +kernel
theorem dX12_flow_46 : decode cX12_flow 46 = .ok (.invokevirtual 139, 3) := by decide +kernel
theorem dX12_flow_49 : decode cX12_flow 49 = .ok (.iconst 1, 1) := by decide +kernel
theorem dX12_flow_50 : decode cX12_flow 50 = .ok (.isub, 1) := by decide +kernel
theorem dX12_flow_51 : decode cX12_flow 51 = .ok (.invokevirtual 216, 3) := by decide +kernel
theorem dX12_flow_54 : decode cX12_flow 54 = .ok (.lmul, 1) := by decide +kernel
theorem dX12_flow_55 : decode cX12_flow 55 = .ok (.aload_n 0, 1) := by decide +kernel
theorem dX12_flow_56 : decode cX12_flow 56 = .ok (.aload_n 0, 1) := by decide +kernel
theorem dX12_flow_57 : decode cX12_flow 57 = .ok (.invokevirtual 139, 3) := by decide +kernel
theorem dX12_flow_60 : decode cX12_flow 60 = .ok (.invokevirtual 216, 3) := by decide +kernel
theorem dX12_flow_63 : decode cX12_flow 63 = .ok (.iload_n 1, 1) := by decide +kernel
theorem dX12_flow_64 : decode cX12_flow 64 = .ok (.invokestatic 196, 3) := by decide +kernel
theorem dX12_flow_67 : decode cX12_flow 67 = .ok (.lreturn, 1) := by decide +kernel
theorem dX12_withAll_0 : decode cX12_withAll 0 = .ok (.lconst 0, 1) := by decide +kernel
theorem dX12_withAll_1 : decode cX12_withAll 1 = .ok (.lstore_n 2, 1) := by decide +kernel
theorem dX12_withAll_2 : decode cX12_withAll 2 = .ok (.iconst 0, 1) := by decide +kernel
theorem dX12_withAll_3 : decode cX12_withAll 3 = .ok (.istore 4, 2) := by decide +kernel
theorem dX12_withAll_5 : decode cX12_withAll 5 = .ok (.iload 4, 2) := by decide +kernel
theorem dX12_withAll_7 : decode cX12_withAll 7 = .ok (.aload_n 0, 1) := by decide +kernel
theorem dX12_withAll_8 : decode cX12_withAll 8 = .ok (.invokevirtual 68, 3) := by decide +kernel
theorem dX12_withAll_11 : decode cX12_withAll 11 = .ok (.if_icmp .ge 36, 3) := by decide +kernel
theorem dX12_withAll_14 : decode cX12_withAll 14 = .ok (.lload_n 2, 1) := by decide +kernel
theorem dX12_withAll_15 : decode cX12_withAll 15 = .ok (.iload 4, 2) := by decide +kernel
theorem dX12_withAll_17 : decode cX12_withAll 17 = .ok (.iload_n 1, 1) := by decide +kernel
theorem dX12_withAll_18 : decode cX12_withAll 18 = .ok (.iand, 1) := by decide +kernel
theorem dX12_withAll_19 : decode cX12_withAll 19 = .ok (.iload_n 1, 1) := by decide +kernel
theorem dX12_withAll_20 : decode cX12_withAll 20 = .ok (.if_icmp .ne 18, 3) := by decide +kernel
theorem dX12_withAll_23 : decode cX12_withAll 23 = .ok (.aload_n 0, 1) := by decide +kernel
theorem dX12_withAll_24 : decode cX12_withAll 24 = .ok (.getfield 38, 3) := by decide +kernel
theorem dX12_withAll_27 : decode cX12_withAll 27 = .ok (.aload_n 0, 1) := by decide +kernel
theorem dX12_withAll_28 : decode cX12_withAll 28 = .ok (.invokevirtual 68, 3) := by decide +kernel
theorem dX12_withAll_31 : decode cX12_withAll 31 = .ok (.iload 4, 2) := by decide +kernel
theorem dX12_withAll_33 : decode cX12_withAll 33 = .ok (.iadd, 1) := by decide +kernel
theorem dX12_withAll_34 : decode cX12_withAll 34 = .ok (.laload, 1) := by decide +kernel
theorem dX12_withAll_35 : decode cX12_withAll 35 = .ok (.goto 4, 3) := by decide +kernel
theorem dX12_withAll_38 : decode cX12_withAll 38 = .ok (.lconst 0, 1) := by decide +kernel
theorem dX12_withAll_39 : decode cX12_withAll 39 = .ok (.ladd, 1) := by decide +kernel
theorem dX12_withAll_40 : decode cX12_withAll 40 = .ok (.lstore_n 2, 1) := by decide +kernel
theorem dX12_withAll_41 : decode cX12_withAll 41 = .ok (.iinc 4 1, 3) := by decide +kernel
theorem dX12_withAll_44 : decode cX12_withAll 44 = .ok (.goto (-39), 3) := by decide +kernel
theorem dX12_withAll_47 : decode cX12_withAll 47 = .ok (.lload_n 2, 1) := by decide +kernel
theorem dX12_withAll_48 : decode cX12_withAll 48 = .ok (.lreturn, 1) := by decide +kernel
theorem dX12_full_0 : decode cX12_full 0 = .ok (.iload_n 1, 1) := by decide +kernel
theorem dX12_full_1 : decode cX12_full 1 = .ok (.i2l, 1) := by decide +kernel
theorem dX12_full_2 : decode cX12_full 2 = .ok (.lconst 0, 1) := by decide +kernel
theorem dX12_full_3 : decode cX12_full 3 = .ok (.aload_n 0, 1) := by decide +kernel
theorem dX12_full_4 : decode cX12_full 4 = .ok (.invokevirtual 139, 3) := by decide +kernel
theorem dX12_full_7 : decode cX12_full 7 = .ok (.iconst 1, 1) := by decide +kernel
theorem dX12_full_8 : decode cX12_full 8 = .ok (.isub, 1) := by decide +kernel
theorem dX12_full_9 : decode cX12_full 9 = .ok (.i2l, 1) := by decide +kernel
theorem dX12_full_10 : decode cX12_full 10 = .ok (.invokestatic 72, 3) := by decide +kernel
theorem dX12_full_13 : decode cX12_full 13 = .ok (.ifCond .eq 13, 3) := by decide +kernel
theorem dX12_full_16 : decode cX12_full 16 = .ok (.iload_n 2, 1) := by decide +kernel
theorem dX12_full_17 : decode cX12_full 17 = .ok (.i2l, 1) := by decide +kernel
theorem dX12_full_18 : decode cX12_full 18 = .ok (.lconst 0, 1) := by decide +kernel
theorem dX12_full_19 : decode cX12_full 19 = .ok (.lconst 1, 1) := by decide +kernel
theorem dX12_full_20 : decode cX12_full 20 = .ok (.invokestatic 72, 3) := by decide +kernel
theorem dX12_full_23 : decode cX12_full 23 = .ok (.ifCond .ne 7, 3) := by decide +kernel
theorem dX12_full_26 : decode cX12_full 26 = .ok (.ldc2_w 187, 3) := by decide +kernel
theorem dX12_full_29 : decode cX12_full 29 = .ok (.lreturn, 1) := by decide +kernel
theorem dX12_full_30 : decode cX12_full 30 = .ok (.aload_n 0, 1) := by decide +kernel
theorem dX12_full_31 : decode cX12_full 31 = .ok (.invokevirtual 208, 3) := by decide +kernel
theorem dX12_full_34 : decode cX12_full 34 = .ok (.ifCond .ne 7, 3) := by decide +kernel
theorem dX12_full_37 : decode cX12_full 37 = .ok (.ldc2_w 211, 3) := by decide +kernel
theorem dX12_full_40 : decode cX12_full 40 = .ok (.lreturn, 1) := by decide +kernel
theorem dX12_full_41 : decode cX12_full 41 = .ok (.aload_n 0, 1) := by decide +kernel
theorem dX12_full_42 : decode cX12_full 42 = .ok (.invokevirtual 213, 3) := by decide +kernel
theorem dX12_full_45 : decode cX12_full 45 = .ok (.aload_n 0, 1) := by decide +kernel
theorem dX12_full_46 : decode cX12_full 46 = .ok (.iconst 1, 1) := by decide +kernel
theorem dX12_full_47 : decode cX12_full 47 = .ok (.iload_n 1, 1) := by decide +kernel
theorem dX12_full_48 : decode cX12_full 48 = .ok (.ishl, 1) := by decide +kernel
theorem dX12_full_49 : decode cX12_full 49 = .ok (.invokevirtual 219, 3) := by decide +kernel
theorem dX12_full_52 : decode cX12_full 52 = .ok (.aload_n 0, 1) := by decide +kernel
theorem dX12_full_53 : decode cX12_full 53 = .ok (.aload_n 0, 1) := by decide +kernel
theorem dX12_full_54 : decode cX12_full 54 = .ok (.invokevirtual 139, 3) := by decide +kernel
theorem dX12_full_57 : decode cX12_full 57 = .ok (.invokevirtual 216, 3) := by decide +kernel
theorem dX12_full_60 : decode cX12_full 60 = .ok (.iload_n 2, 1) := by decide +kernel
theorem dX12_full_61 : decode cX12_full 61 = .ok (.invokestatic 196, 3) := by decide +kernel
theorem dX12_full_64 : decode cX12_full 64 = .ok (.lreturn, 1) := by decide +kernel
theorem dX12_both_0 : decode cX12_both 0 = .ok (.iload_n 1, 1) := by decide +kernel
theorem dX12_both_1 : decode cX12_both 1 = .ok (.i2l, 1) := by decide +kernel
theorem dX12_both_2 : decode cX12_both 2 = .ok (.lconst 0, 1) := by decide +kernel
theorem dX12_both_3 : decode cX12_both 3 = .ok (.aload_n 0, 1) := by decide +kernel
theorem dX12_both_4 : decode cX12_both 4 = .ok (.invokevirtual 139, 3) := by decide +kernel
theorem dX12_both_7 : decode cX12_both 7 = .ok (.iconst 1, 1) := by decide +kernel
theorem dX12_both_8 : decode cX12_both 8 = .ok (.isub, 1) := by decide +kernel
theorem dX12_both_9 : decode cX12_both 9 = .ok (.i2l, 1) := by decide +kernel
theorem dX12_both_10 : decode cX12_both 10 = .ok (.invokestatic 72, 3) := by decide +kernel
theorem dX12_both_13 : decode cX12_both 13 = .ok (.ifCond .eq 34, 3) := by decide +kernel
theorem dX12_both_16 : decode cX12_both 16 = .ok (.iload_n 2, 1) := by decide +kernel
theorem dX12_both_17 : decode cX12_both 17 = .ok (.i2l, 1) := by decide +kernel
theorem dX12_both_18 : decode cX12_both 18 = .ok (.lconst 0, 1) := by decide +kernel
theorem dX12_both_19 : decode cX12_both 19 = .ok (.aload_n 0, 1) := by decide +kernel
theorem dX12_both_20 : decode cX12_both 20 = .ok (.invokevirtual 139, 3) := by decide +kernel
theorem dX12_both_23 : decode cX12_both 23 = .ok (.iconst 1, 1) := by decide +kernel
theorem dX12_both_24 : decode cX12_both 24 = .ok (.isub, 1) := by decide +kernel
theorem dX12_both_25 : decode cX12_both 25 = .ok (.i2l, 1) := by decide +kernel
theorem dX12_both_26 : decode cX12_both 26 = .ok (.invokestatic 72, 3) := by decide +kernel
theorem dX12_both_29 : decode cX12_both 29 = .ok (.ifCond .eq 18, 3) := by decide +kernel
theorem dX12_both_32 : decode cX12_both 32 = .ok (.iload_n 1, 1) := by decide +kernel
theorem dX12_both_33 : decode cX12_both 33 = .ok (.iload_n 2, 1) := by decide +kernel
theorem dX12_both_34 : decode cX12_both 34 = .ok (.if_icmp .eq 13, 3) := by decide +kernel
theorem dX12_both_37 : decode cX12_both 37 = .ok (.iload_n 3, 1) := by decide +kernel
theorem dX12_both_38 : decode cX12_both 38 = .ok (.i2l, 1) := by decide +kernel
theorem dX12_both_39 : decode cX12_both 39 = .ok (.lconst 0, 1) := by decide +kernel
theorem dX12_both_40 : decode cX12_both 40 = .ok (.lconst 1, 1) := by decide +kernel
theorem dX12_both_41 : decode cX12_both 41 = .ok (.invokestatic 72, 3) := by decide +kernel
theorem dX12_both_44 : decode cX12_both 44 = .ok (.ifCond .ne 7, 3) := by decide +kernel
theorem dX12_both_47 : decode cX12_both 47 = .ok (.ldc2_w 187, 3) := by decide +kernel
theorem dX12_both_50 : decode cX12_both 50 = .ok (.lreturn, 1) := by decide +kernel
theorem dX12_both_51 : decode cX12_both 51 = .ok (.aload_n 0, 1) := by decide +kernel
theorem dX12_both_52 : decode cX12_both 52 = .ok (.invokevirtual 208, 3) := by decide +kernel
theorem dX12_both_55 : decode cX12_both 55 = .ok (.ifCond .ne 7, 3) := by decide +kernel
theorem dX12_both_58 : decode cX12_both 58 = .ok (.ldc2_w 211, 3) := by decide +kernel
theorem dX12_both_61 : decode cX12_both 61 = .ok (.lreturn, 1) := by decide +kernel
theorem dX12_both_62 : decode cX12_both 62 = .ok (.aload_n 0, 1) := by decide +kernel
theorem dX12_both_63 : decode cX12_both 63 = .ok (.invokevirtual 213, 3) := by decide +kernel
theorem dX12_both_66 : decode cX12_both 66 = .ok (.aload_n 0, 1) := by decide +kernel
theorem dX12_both_67 : decode cX12_both 67 = .ok (.iconst 1, 1) := by decide +kernel
theorem dX12_both_68 : decode cX12_both 68 = .ok (.iload_n 1, 1) := by decide +kernel
theorem dX12_both_69 : decode cX12_both 69 = .ok (.ishl, 1) := by decide +kernel
theorem dX12_both_70 : decode cX12_both 70 = .ok (.iconst 1, 1) := by decide +kernel
theorem dX12_both_71 : decode cX12_both 71 = .ok (.iload_n 2, 1) := by decide +kernel
theorem dX12_both_72 : decode cX12_both 72 = .ok (.ishl, 1) := by decide +kernel
theorem dX12_both_73 : decode cX12_both 73 = .ok (.ior, 1) := by decide +kernel
theorem dX12_both_74 : decode cX12_both 74 = .ok (.invokevirtual 219, 3) := by decide +kernel
theorem dX12_both_77 : decode cX12_both 77 = .ok (.aload_n 0, 1) := by decide +kernel
theorem dX12_both_78 : decode cX12_both 78 = .ok (.aload_n 0, 1) := by decide +kernel
theorem dX12_both_79 : decode cX12_both 79 = .ok (.invokevirtual 139, 3) := by decide +kernel
theorem dX12_both_82 : decode cX12_both 82 = .ok (.invokevirtual 216, 3) := by decide +kernel
theorem dX12_both_85 : decode cX12_both 85 = .ok (.iload_n 3, 1) := by decide +kernel
theorem dX12_both_86 : decode cX12_both 86 = .ok (.invokestatic 196, 3) := by decide +kernel
theorem dX12_both_89 : decode cX12_both 89 = .ok (.lreturn, 1) := by decide +kernel
theorem dX12_rule_0 : decode cX12_rule 0 = .ok (.iload_n 1, 1) := by decide +kernel
theorem dX12_rule_1 : decode cX12_rule 1 = .ok (.i2l, 1) := by decide +kernel
theorem dX12_rule_2 : decode cX12_rule 2 = .ok (.lconst 1, 1) := by decide +kernel
theorem dX12_rule_3 : decode cX12_rule 3 = .ok (.ldc2_w 222, 3) := by decide +kernel
theorem dX12_rule_6 : decode cX12_rule 6 = .ok (.invokestatic 72, 3) := by decide +kernel
theorem dX12_rule_9 : decode cX12_rule 9 = .ok (.ifCond .eq 15, 3) := by decide +kernel
theorem dX12_rule_12 : decode cX12_rule 12 = .ok (.iload_n 2, 1) := by decide +kernel
theorem dX12_rule_13 : decode cX12_rule 13 = .ok (.i2l, 1) := by decide +kernel
theorem dX12_rule_14 : decode cX12_rule 14 = .ok (.lconst 1, 1) := by decide +kernel
theorem dX12_rule_15 : decode cX12_rule 15 = .ok (.ldc2_w 222, 3) := by decide +kernel
theorem dX12_rule_18 : decode cX12_rule 18 = .ok (.invokestatic 72, 3) := by decide +kernel
theorem dX12_rule_21 : decode cX12_rule 21 = .ok (.ifCond .ne 5, 3) := by decide +kernel
theorem dX12_rule_24 : decode cX12_rule 24 = .ok (.iconst (-1), 1) := by decide +kernel
theorem dX12_rule_25 : decode cX12_rule 25 = .ok (.ireturn, 1) := by decide +kernel
theorem dX12_rule_26 : decode cX12_rule 26 = .ok (.iload_n 1, 1) := by decide +kernel
theorem dX12_rule_27 : decode cX12_rule 27 = .ok (.iconst 5, 1) := by decide +kernel
theorem dX12_rule_28 : decode cX12_rule 28 = .ok (.if_icmp .lt 12, 3) := by decide +kernel
theorem dX12_rule_31 : decode cX12_rule 31 = .ok (.iload_n 2, 1) := by decide +kernel
theorem dX12_rule_32 : decode cX12_rule 32 = .ok (.iconst 5, 1) := by decide +kernel
theorem dX12_rule_33 : decode cX12_rule 33 = .ok (.if_icmp .lt 7, 3) := by decide +kernel
theorem dX12_rule_36 : decode cX12_rule 36 = .ok (.iconst 2, 1) := by decide +kernel
theorem dX12_rule_37 : decode cX12_rule 37 = .ok (.goto 22, 3) := by decide +kernel
theorem dX12_rule_40 : decode cX12_rule 40 = .ok (.iload_n 1, 1) := by decide +kernel
theorem dX12_rule_41 : decode cX12_rule 41 = .ok (.iload_n 2, 1) := by decide +kernel
theorem dX12_rule_42 : decode cX12_rule 42 = .ok (.if_icmp .ge 7, 3) := by decide +kernel
theorem dX12_rule_45 : decode cX12_rule 45 = .ok (.iconst 0, 1) := by decide +kernel
theorem dX12_rule_46 : decode cX12_rule 46 = .ok (.goto 13, 3) := by decide +kernel
theorem dX12_rule_49 : decode cX12_rule 49 = .ok (.iload_n 2, 1) := by decide +kernel
theorem dX12_rule_50 : decode cX12_rule 50 = .ok (.iload_n 1, 1) := by decide +kernel
theorem dX12_rule_51 : decode cX12_rule 51 = .ok (.if_icmp .ge 7, 3) := by decide +kernel
theorem dX12_rule_54 : decode cX12_rule 54 = .ok (.iconst 1, 1) := by decide +kernel
theorem dX12_rule_55 : decode cX12_rule 55 = .ok (.goto 4, 3) := by decide +kernel
theorem dX12_rule_58 : decode cX12_rule 58 = .ok (.iconst 3, 1) := by decide +kernel
theorem dX12_rule_59 : decode cX12_rule 59 = .ok (.ireturn, 1) := by decide +kernel
theorem dX12_shock_0 : decode cX12_shock 0 = .ok (.iload_n 1, 1) := by decide +kernel
theorem dX12_shock_1 : decode cX12_shock 1 = .ok (.i2l, 1) := by decide +kernel
theorem dX12_shock_2 : decode cX12_shock 2 = .ok (.lconst 0, 1) := by decide +kernel
theorem dX12_shock_3 : decode cX12_shock 3 = .ok (.ldc2_w 222, 3) := by decide +kernel
theorem dX12_shock_6 : decode cX12_shock 6 = .ok (.invokestatic 72, 3) := by decide +kernel
theorem dX12_shock_9 : decode cX12_shock 9 = .ok (.ifCond .eq 27, 3) := by decide +kernel
theorem dX12_shock_12 : decode cX12_shock 12 = .ok (.iload_n 2, 1) := by decide +kernel
theorem dX12_shock_13 : decode cX12_shock 13 = .ok (.i2l, 1) := by decide +kernel
theorem dX12_shock_14 : decode cX12_shock 14 = .ok (.lconst 0, 1) := by decide +kernel
theorem dX12_shock_15 : decode cX12_shock 15 = .ok (.ldc2_w 222, 3) := by decide +kernel
theorem dX12_shock_18 : decode cX12_shock 18 = .ok (.invokestatic 72, 3) := by decide +kernel
theorem dX12_shock_21 : decode cX12_shock 21 = .ok (.ifCond .eq 15, 3) := by decide +kernel
theorem dX12_shock_24 : decode cX12_shock 24 = .ok (.iload_n 3, 1) := by decide +kernel
theorem dX12_shock_25 : decode cX12_shock 25 = .ok (.i2l, 1) := by decide +kernel
theorem dX12_shock_26 : decode cX12_shock 26 = .ok (.lconst 0, 1) := by decide +kernel
theorem dX12_shock_27 : decode cX12_shock 27 = .ok (.ldc2_w 176, 3) := by decide +kernel
theorem dX12_shock_30 : decode cX12_shock 30 = .ok (.invokestatic 72, 3) := by decide +kernel
theorem dX12_shock_33 : decode cX12_shock 33 = .ok (.ifCond .ne 6, 3) := by decide +kernel
theorem dX12_shock_36 : decode cX12_shock 36 = .ok (.bipush (-100), 2) := by decide +kernel
theorem dX12_shock_38 : decode cX12_shock 38 = .ok (.ireturn, 1) := by decide +kernel
theorem dX12_shock_39 : decode cX12_shock 39 = .ok (.iload_n 1, 1) := by decide +kernel
theorem dX12_shock_40 : decode cX12_shock 40 = .ok (.iload_n 2, 1) := by decide +kernel
theorem dX12_shock_41 : decode cX12_shock 41 = .ok (.if_icmp .ne 6, 3) := by decide +kernel
theorem dX12_shock_44 : decode cX12_shock 44 = .ok (.bipush (-104), 2) := by decide +kernel
theorem dX12_shock_46 : decode cX12_shock 46 = .ok (.ireturn, 1) := by decide +kernel
theorem dX12_shock_47 : decode cX12_shock 47 = .ok (.iload_n 3, 1) := by decide +kernel
theorem dX12_shock_48 : decode cX12_shock 48 = .ok (.iconst 2, 1) := by decide +kernel
theorem dX12_shock_49 : decode cX12_shock 49 = .ok (.if_icmp .ne 19, 3) := by decide +kernel
theorem dX12_shock_52 : decode cX12_shock 52 = .ok (.iload_n 1, 1) := by decide +kernel
theorem dX12_shock_53 : decode cX12_shock 53 = .ok (.iload_n 2, 1) := by decide +kernel
theorem dX12_shock_54 : decode cX12_shock 54 = .ok (.iadd, 1) := by decide +kernel
theorem dX12_shock_55 : decode cX12_shock 55 = .ok (.bipush 10, 2) := by decide +kernel
theorem dX12_shock_57 : decode cX12_shock 57 = .ok (.if_icmp .ne 7, 3) := by decide +kernel
theorem dX12_shock_60 : decode cX12_shock 60 = .ok (.iconst 1, 1) := by decide +kernel
theorem dX12_shock_61 : decode cX12_shock 61 = .ok (.goto 22, 3) := by decide +kernel
theorem dX12_shock_64 : decode cX12_shock 64 = .ok (.iconst 0, 1) := by decide +kernel
theorem dX12_shock_65 : decode cX12_shock 65 = .ok (.goto 18, 3) := by decide +kernel
theorem dX12_shock_68 : decode cX12_shock 68 = .ok (.bipush 10, 2) := by decide +kernel
theorem dX12_shock_70 : decode cX12_shock 70 = .ok (.iload_n 1, 1) := by decide +kernel
theorem dX12_shock_71 : decode cX12_shock 71 = .ok (.isub, 1) := by decide +kernel
theorem dX12_shock_72 : decode cX12_shock 72 = .ok (.iload_n 2, 1) := by decide +kernel
theorem dX12_shock_73 : decode cX12_shock 73 = .ok (.isub, 1) := by decide +kernel
theorem dX12_shock_74 : decode cX12_shock 74 = .ok (.i2l, 1) := by decide +kernel
theorem dX12_shock_75 : decode cX12_shock 75 = .ok (.ldc2_w 222, 3) := by decide +kernel
theorem dX12_shock_78 : decode cX12_shock 78 = .ok (.iload_n 3, 1) := by decide +kernel
theorem dX12_shock_79 : decode cX12_shock 79 = .ok (.invokestatic 196, 3) := by decide +kernel
theorem dX12_shock_82 : decode cX12_shock 82 = .ok (.l2i, 1) := by decide +kernel
theorem dX12_shock_83 : decode cX12_shock 83 = .ok (.ireturn, 1) := by decide +kernel
theorem dX12_onceMore_0 : decode cX12_onceMore 0 = .ok (.aload_n 0, 1) := by decide +kernel
theorem dX12_onceMore_1 : decode cX12_onceMore 1 = .ok (.invokevirtual 139, 3) := by decide +kernel
theorem dX12_onceMore_4 : decode cX12_onceMore 4 = .ok (.istore_n 2, 1) := by decide +kernel
theorem dX12_onceMore_5 : decode cX12_onceMore 5 = .ok (.iload_n 1, 1) := by decide +kernel
theorem dX12_onceMore_6 : decode cX12_onceMore 6 = .ok (.istore_n 3, 1) := by decide +kernel
theorem dX12_onceMore_7 : decode cX12_onceMore 7 = .ok (.aload_n 0, 1) := by decide +kernel
theorem dX12_onceMore_8 : decode cX12_onceMore 8 = .ok (.iconst 0, 1) := by decide +kernel
theorem dX12_onceMore_9 : decode cX12_onceMore 9 = .ok (.putfield 224, 3) := by decide +kernel
theorem dX12_onceMore_12 : decode cX12_onceMore 12 = .ok (.iconst 0, 1) := by decide +kernel
theorem dX12_onceMore_13 : decode cX12_onceMore 13 = .ok (.istore 4, 2) := by decide +kernel
theorem dX12_onceMore_15 : decode cX12_onceMore 15 = .ok (.iload 4, 2) := by decide +kernel
theorem dX12_onceMore_17 : decode cX12_onceMore 17 = .ok (.iload_n 2, 1) := by decide +kernel
theorem dX12_onceMore_18 : decode cX12_onceMore 18 = .ok (.if_icmp .ge 69, 3) := by decide +kernel
theorem dX12_onceMore_21 : decode cX12_onceMore 21 = .ok (.iload 4, 2) := by decide +kernel
theorem dX12_onceMore_23 : decode cX12_onceMore 23 = .ok (.iconst 1, 1) := by decide +kernel
theorem dX12_onceMore_24 : decode cX12_onceMore 24 = .ok (.iadd, 1) := by decide +kernel
theorem dX12_onceMore_25 : decode cX12_onceMore 25 = .ok (.iload_n 2, 1) := by decide +kernel
theorem dX12_onceMore_26 : decode cX12_onceMore 26 = .ok (.if_icmp .ge 10, 3) := by decide +kernel
theorem dX12_onceMore_29 : decode cX12_onceMore 29 = .ok (.iload 4, 2) := by decide +kernel
theorem dX12_onceMore_31 : decode cX12_onceMore 31 = .ok (.iconst 1, 1) := by decide +kernel
theorem dX12_onceMore_32 : decode cX12_onceMore 32 = .ok (.iadd, 1) := by decide +kernel
theorem dX12_onceMore_33 : decode cX12_onceMore 33 = .ok (.goto 4, 3) := by decide +kernel
theorem dX12_onceMore_36 : decode cX12_onceMore 36 = .ok (.iconst 0, 1) := by decide +kernel
theorem dX12_onceMore_37 : decode cX12_onceMore 37 = .ok (.istore 5, 2) := by decide +kernel
theorem dX12_onceMore_39 : decode cX12_onceMore 39 = .ok (.aload_n 0, 1) := by decide +kernel
theorem dX12_onceMore_40 : decode cX12_onceMore 40 = .ok (.iload_n 1, 1) := by decide +kernel
theorem dX12_onceMore_41 : decode cX12_onceMore 41 = .ok (.iload 4, 2) := by decide +kernel
theorem dX12_onceMore_43 : decode cX12_onceMore 43 = .ok (.invokevirtual 135, 3) := by decide +kernel
theorem dX12_onceMore_46 : decode cX12_onceMore 46 = .ok (.ifCond .eq 35, 3) := by decide +kernel
theorem dX12_onceMore_49 : decode cX12_onceMore 49 = .ok (.aload_n 0, 1) := by decide +kernel
theorem dX12_onceMore_50 : decode cX12_onceMore 50 = .ok (.iload_n 1, 1) := by decide +kernel
theorem dX12_onceMore_51 : decode cX12_onceMore 51 = .ok (.iload 5, 2) := by decide +kernel
theorem dX12_onceMore_53 : decode cX12_onceMore 53 = .ok (.invokevirtual 135, 3) := by decide +kernel
theorem dX12_onceMore_56 : decode cX12_onceMore 56 = .ok (.ifCond .ne 25, 3) := by decide +kernel
theorem dX12_onceMore_59 : decode cX12_onceMore 59 = .ok (.iload_n 3, 1) := by decide +kernel
theorem dX12_onceMore_60 : decode cX12_onceMore 60 = .ok (.iconst 1, 1) := by decide +kernel
theorem dX12_onceMore_61 : decode cX12_onceMore 61 = .ok (.iload 4, 2) := by decide +kernel
theorem dX12_onceMore_63 : decode cX12_onceMore 63 = .ok (.ishl, 1) := by decide +kernel
theorem dX12_onceMore_64 : decode cX12_onceMore 64 = .ok (.iconst 1, 1) := by decide +kernel
theorem dX12_onceMore_65 : decode cX12_onceMore 65 = .ok (.iload 5, 2) := by decide +kernel
theorem dX12_onceMore_67 : decode cX12_onceMore 67 = .ok (.ishl, 1) := by decide +kernel
theorem dX12_onceMore_68 : decode cX12_onceMore 68 = .ok (.ixor, 1) := by decide +kernel
theorem dX12_onceMore_69 : decode cX12_onceMore 69 = .ok (.ixor, 1) := by decide +kernel
theorem dX12_onceMore_70 : decode cX12_onceMore 70 = .ok (.istore_n 3, 1) := by decide +kernel
theorem dX12_onceMore_71 : decode cX12_onceMore 71 = .ok (.aload_n 0, 1) := by decide +kernel
theorem dX12_onceMore_72 : decode cX12_onceMore 72 = .ok (.dup, 1) := by decide +kernel
theorem dX12_onceMore_73 : decode cX12_onceMore 73 = .ok (.getfield 224, 3) := by decide +kernel
theorem dX12_onceMore_76 : decode cX12_onceMore 76 = .ok (.iconst 1, 1) := by decide +kernel
theorem dX12_onceMore_77 : decode cX12_onceMore 77 = .ok (.iadd, 1) := by decide +kernel
theorem dX12_onceMore_78 : decode cX12_onceMore 78 = .ok (.putfield 224, 3) := by decide +kernel
theorem dX12_onceMore_81 : decode cX12_onceMore 81 = .ok (.iinc 4 1, 3) := by decide +kernel
theorem dX12_onceMore_84 : decode cX12_onceMore 84 = .ok (.goto (-69), 3) := by decide +kernel
theorem dX12_onceMore_87 : decode cX12_onceMore 87 = .ok (.iload_n 3, 1) := by decide +kernel
theorem dX12_onceMore_88 : decode cX12_onceMore 88 = .ok (.ireturn, 1) := by decide +kernel
theorem dX12_atOnce_0 : decode cX12_atOnce 0 = .ok (.aload_n 0, 1) := by decide +kernel
theorem dX12_atOnce_1 : decode cX12_atOnce 1 = .ok (.iload_n 1, 1) := by decide +kernel
theorem dX12_atOnce_2 : decode cX12_atOnce 2 = .ok (.invokevirtual 150, 3) := by decide +kernel
theorem dX12_atOnce_5 : decode cX12_atOnce 5 = .ok (.ifCond .eq 15, 3) := by decide +kernel
theorem dX12_atOnce_8 : decode cX12_atOnce 8 = .ok (.iload_n 2, 1) := by decide +kernel
theorem dX12_atOnce_9 : decode cX12_atOnce 9 = .ok (.i2l, 1) := by decide +kernel
theorem dX12_atOnce_10 : decode cX12_atOnce 10 = .ok (.lconst 0, 1) := by decide +kernel
theorem dX12_atOnce_11 : decode cX12_atOnce 11 = .ok (.ldc2_w 227, 3) := by decide +kernel
theorem dX12_atOnce_14 : decode cX12_atOnce 14 = .ok (.invokestatic 72, 3) := by decide +kernel
theorem dX12_atOnce_17 : decode cX12_atOnce 17 = .ok (.ifCond .ne 5, 3) := by decide +kernel
theorem dX12_atOnce_20 : decode cX12_atOnce 20 = .ok (.iconst (-1), 1) := by decide +kernel
theorem dX12_atOnce_21 : decode cX12_atOnce 21 = .ok (.ireturn, 1) := by decide +kernel
theorem dX12_atOnce_22 : decode cX12_atOnce 22 = .ok (.aload_n 0, 1) := by decide +kernel
theorem dX12_atOnce_23 : decode cX12_atOnce 23 = .ok (.invokevirtual 142, 3) := by decide +kernel
theorem dX12_atOnce_26 : decode cX12_atOnce 26 = .ok (.ifCond .eq 6, 3) := by decide +kernel
theorem dX12_atOnce_29 : decode cX12_atOnce 29 = .ok (.bipush (-2), 2) := by decide +kernel
theorem dX12_atOnce_31 : decode cX12_atOnce 31 = .ok (.ireturn, 1) := by decide +kernel
theorem dX12_atOnce_32 : decode cX12_atOnce 32 = .ok (.iload_n 1, 1) := by decide +kernel
theorem dX12_atOnce_33 : decode cX12_atOnce 33 = .ok (.istore_n 3, 1) := by decide +kernel
theorem dX12_atOnce_34 : decode cX12_atOnce 34 = .ok (.iconst 0, 1) := by decide +kernel
theorem dX12_atOnce_35 : decode cX12_atOnce 35 = .ok (.istore 4, 2) := by decide +kernel
theorem dX12_atOnce_37 : decode cX12_atOnce 37 = .ok (.iload 4, 2) := by decide +kernel
theorem dX12_atOnce_39 : decode cX12_atOnce 39 = .ok (.iload_n 2, 1) := by decide +kernel
theorem dX12_atOnce_40 : decode cX12_atOnce 40 = .ok (.if_icmp .ge 15, 3) := by decide +kernel
theorem dX12_atOnce_43 : decode cX12_atOnce 43 = .ok (.aload_n 0, 1) := by decide +kernel
theorem dX12_atOnce_44 : decode cX12_atOnce 44 = .ok (.iload_n 3, 1) := by decide +kernel
theorem dX12_atOnce_45 : decode cX12_atOnce 45 = .ok (.invokevirtual 229, 3) := by decide +kernel
theorem dX12_atOnce_48 : decode cX12_atOnce 48 = .ok (.istore_n 3, 1) := by decide +kernel
theorem dX12_atOnce_49 : decode cX12_atOnce 49 = .ok (.iinc 4 1, 3) := by decide +kernel
theorem dX12_atOnce_52 : decode cX12_atOnce 52 = .ok (.goto (-15), 3) := by decide +kernel
theorem dX12_atOnce_55 : decode cX12_atOnce 55 = .ok (.iload_n 3, 1) := by decide +kernel
theorem dX12_atOnce_56 : decode cX12_atOnce 56 = .ok (.ireturn, 1) := by decide +kernel
theorem dX12_round_0 : decode cX12_round 0 = .ok (.aload_n 0, 1) := by decide +kernel
theorem dX12_round_1 : decode cX12_round 1 = .ok (.iload_n 1, 1) := by decide +kernel
theorem dX12_round_2 : decode cX12_round 2 = .ok (.invokevirtual 150, 3) := by decide +kernel
theorem dX12_round_5 : decode cX12_round 5 = .ok (.ifCond .eq 15, 3) := by decide +kernel
theorem dX12_round_8 : decode cX12_round 8 = .ok (.iload_n 2, 1) := by decide +kernel
theorem dX12_round_9 : decode cX12_round 9 = .ok (.i2l, 1) := by decide +kernel
theorem dX12_round_10 : decode cX12_round 10 = .ok (.lconst 0, 1) := by decide +kernel
theorem dX12_round_11 : decode cX12_round 11 = .ok (.ldc2_w 176, 3) := by decide +kernel
theorem dX12_round_14 : decode cX12_round 14 = .ok (.invokestatic 72, 3) := by decide +kernel
theorem dX12_round_17 : decode cX12_round 17 = .ok (.ifCond .ne 5, 3) := by decide +kernel
theorem dX12_round_20 : decode cX12_round 20 = .ok (.iconst (-1), 1) := by decide +kernel
theorem dX12_round_21 : decode cX12_round 21 = .ok (.ireturn, 1) := by decide +kernel
theorem dX12_round_22 : decode cX12_round 22 = .ok (.aload_n 0, 1) := by decide +kernel
theorem dX12_round_23 : decode cX12_round 23 = .ok (.invokevirtual 142, 3) := by decide +kernel
theorem dX12_round_26 : decode cX12_round 26 = .ok (.ifCond .eq 6, 3) := by decide +kernel
theorem dX12_round_29 : decode cX12_round 29 = .ok (.bipush (-2), 2) := by decide +kernel
theorem dX12_round_31 : decode cX12_round 31 = .ok (.ireturn, 1) := by decide +kernel
theorem dX12_round_32 : decode cX12_round 32 = .ok (.iconst 0, 1) := by decide +kernel
theorem dX12_round_33 : decode cX12_round 33 = .ok (.istore_n 3, 1) := by decide +kernel
theorem dX12_round_34 : decode cX12_round 34 = .ok (.iload_n 3, 1) := by decide +kernel
theorem dX12_round_35 : decode cX12_round 35 = .ok (.bipush 64, 2) := by decide +kernel
theorem dX12_round_37 : decode cX12_round 37 = .ok (.if_icmp .ge 17, 3) := by decide +kernel
theorem dX12_round_40 : decode cX12_round 40 = .ok (.aload_n 0, 1) := by decide +kernel
theorem dX12_round_41 : decode cX12_round 41 = .ok (.getfield 41, 3) := by decide +kernel
theorem dX12_round_44 : decode cX12_round 44 = .ok (.iload_n 3, 1) := by decide +kernel
theorem dX12_round_45 : decode cX12_round 45 = .ok (.bipush (-4), 2) := by decide +kernel
theorem dX12_round_47 : decode cX12_round 47 = .ok (.iastore, 1) := by decide +kernel
theorem dX12_round_48 : decode cX12_round 48 = .ok (.iinc 3 1, 3) := by decide +kernel
theorem dX12_round_51 : decode cX12_round 51 = .ok (.goto (-17), 3) := by decide +kernel
theorem dX12_round_54 : decode cX12_round 54 = .ok (.iload_n 1, 1) := by decide +kernel
theorem dX12_round_55 : decode cX12_round 55 = .ok (.istore_n 3, 1) := by decide +kernel
theorem dX12_round_56 : decode cX12_round 56 = .ok (.iconst 0, 1) := by decide +kernel
theorem dX12_round_57 : decode cX12_round 57 = .ok (.istore 4, 2) := by decide +kernel
theorem dX12_round_59 : decode cX12_round 59 = .ok (.aload_n 0, 1) := by decide +kernel
theorem dX12_round_60 : decode cX12_round 60 = .ok (.getfield 41, 3) := by decide +kernel
theorem dX12_round_63 : decode cX12_round 63 = .ok (.iload_n 3, 1) := by decide +kernel
theorem dX12_round_64 : decode cX12_round 64 = .ok (.iaload, 1) := by decide +kernel
theorem dX12_round_65 : decode cX12_round 65 = .ok (.bipush (-4), 2) := by decide +kernel
theorem dX12_round_67 : decode cX12_round 67 = .ok (.if_icmp .ne 23, 3) := by decide +kernel
theorem dX12_round_70 : decode cX12_round 70 = .ok (.aload_n 0, 1) := by decide +kernel
theorem dX12_round_71 : decode cX12_round 71 = .ok (.getfield 41, 3) := by decide +kernel
theorem dX12_round_74 : decode cX12_round 74 = .ok (.iload_n 3, 1) := by decide +kernel
theorem dX12_round_75 : decode cX12_round 75 = .ok (.iload 4, 2) := by decide +kernel
theorem dX12_round_77 : decode cX12_round 77 = .ok (.iastore, 1) := by decide +kernel
theorem dX12_round_78 : decode cX12_round 78 = .ok (.aload_n 0, 1) := by decide +kernel
theorem dX12_round_79 : decode cX12_round 79 = .ok (.iload_n 3, 1) := by decide +kernel
theorem dX12_round_80 : decode cX12_round 80 = .ok (.invokevirtual 229, 3) := by decide +kernel
theorem dX12_round_83 : decode cX12_round 83 = .ok (.istore_n 3, 1) := by decide +kernel
theorem dX12_round_84 : decode cX12_round 84 = .ok (.iinc 4 1, 3) := by decide +kernel
theorem dX12_round_87 : decode cX12_round 87 = .ok (.goto (-28), 3) := by decide +kernel
theorem dX12_round_90 : decode cX12_round 90 = .ok (.iload 4, 2) := by decide +kernel
theorem dX12_round_92 : decode cX12_round 92 = .ok (.aload_n 0, 1) := by decide +kernel
theorem dX12_round_93 : decode cX12_round 93 = .ok (.getfield 41, 3) := by decide +kernel
theorem dX12_round_96 : decode cX12_round 96 = .ok (.iload_n 3, 1) := by decide +kernel
theorem dX12_round_97 : decode cX12_round 97 = .ok (.iaload, 1) := by decide +kernel
theorem dX12_round_98 : decode cX12_round 98 = .ok (.isub, 1) := by decide +kernel
theorem dX12_round_99 : decode cX12_round 99 = .ok (.istore 5, 2) := by decide +kernel
theorem dX12_round_101 : decode cX12_round 101 = .ok (.iconst 0, 1) := by decide +kernel
theorem dX12_round_102 : decode cX12_round 102 = .ok (.istore 6, 2) := by decide +kernel
theorem dX12_round_104 : decode cX12_round 104 = .ok (.iload_n 3, 1) := by decide +kernel
theorem dX12_round_105 : decode cX12_round 105 = .ok (.istore 7, 2) := by decide +kernel
theorem dX12_round_107 : decode cX12_round 107 = .ok (.iconst 0, 1) := by decide +kernel
theorem dX12_round_108 : decode cX12_round 108 = .ok (.istore 8, 2) := by decide +kernel
theorem dX12_round_110 : decode cX12_round 110 = .ok (.iload 8, 2) := by decide +kernel
theorem dX12_round_112 : decode cX12_round 112 = .ok (.iload 5, 2) := by decide +kernel
theorem dX12_round_114 : decode cX12_round 114 = .ok (.if_icmp .ge 26, 3) := by decide +kernel
theorem dX12_round_117 : decode cX12_round 117 = .ok (.aload_n 0, 1) := by decide +kernel
theorem dX12_round_118 : decode cX12_round 118 = .ok (.iload 7, 2) := by decide +kernel
theorem dX12_round_120 : decode cX12_round 120 = .ok (.invokevirtual 229, 3) := by decide +kernel
theorem dX12_round_123 : decode cX12_round 123 = .ok (.istore 7, 2) := by decide +kernel
theorem dX12_round_125 : decode cX12_round 125 = .ok (.iload 6, 2) := by decide +kernel
theorem dX12_round_127 : decode cX12_round 127 = .ok (.aload_n 0, 1) := by decide +kernel
theorem dX12_round_128 : decode cX12_round 128 = .ok (.getfield 224, 3) := by decide +kernel
theorem dX12_round_131 : decode cX12_round 131 = .ok (.iadd, 1) := by decide +kernel
theorem dX12_round_132 : decode cX12_round 132 = .ok (.istore 6, 2) := by decide +kernel
theorem dX12_round_134 : decode cX12_round 134 = .ok (.iinc 8 1, 3) := by decide +kernel
theorem dX12_round_137 : decode cX12_round 137 = .ok (.goto (-27), 3) := by decide +kernel
theorem dX12_round_140 : decode cX12_round 140 = .ok (.iload_n 2, 1) := by decide +kernel
theorem dX12_round_141 : decode cX12_round 141 = .ok (.ifCond .ne 8, 3) := by decide +kernel
theorem dX12_round_144 : decode cX12_round 144 = .ok (.iload 5, 2) := by decide +kernel
theorem dX12_round_146 : decode cX12_round 146 = .ok (.goto 19, 3) := by decide +kernel
theorem dX12_round_149 : decode cX12_round 149 = .ok (.iload_n 2, 1) := by decide +kernel
theorem dX12_round_150 : decode cX12_round 150 = .ok (.iconst 1, 1) := by decide +kernel
theorem dX12_round_151 : decode cX12_round 151 = .ok (.if_icmp .ne 12, 3) := by decide +kernel
theorem dX12_round_154 : decode cX12_round 154 = .ok (.aload_n 0, 1) := by decide +kernel
theorem dX12_round_155 : decode cX12_round 155 = .ok (.getfield 41, 3) := by decide +kernel
theorem dX12_round_158 : decode cX12_round 158 = .ok (.iload_n 3, 1) := by decide +kernel
theorem dX12_round_159 : decode cX12_round 159 = .ok (.iaload, 1) := by decide +kernel
theorem dX12_round_160 : decode cX12_round 160 = .ok (.goto 5, 3) := by decide +kernel
theorem dX12_round_163 : decode cX12_round 163 = .ok (.iload 6, 2) := by decide +kernel
theorem dX12_round_165 : decode cX12_round 165 = .ok (.ireturn, 1) := by decide +kernel
theorem dX12_draw_0 : decode cX12_draw 0 = .ok (.aload_n 0, 1) := by decide +kernel
theorem dX12_draw_1 : decode cX12_draw 1 = .ok (.aload_n 0, 1) := by decide +kernel
theorem dX12_draw_2 : decode cX12_draw 2 = .ok (.getfield 232, 3) := by decide +kernel
theorem dX12_draw_5 : decode cX12_draw 5 = .ok (.ldc 235, 2) := by decide +kernel
theorem dX12_draw_7 : decode cX12_draw 7 = .ok (.imul, 1) := by decide +kernel
theorem dX12_draw_8 : decode cX12_draw 8 = .ok (.sipush 12345, 3) := by decide +kernel
theorem dX12_draw_11 : decode cX12_draw 11 = .ok (.iadd, 1) := by decide +kernel
theorem dX12_draw_12 : decode cX12_draw 12 = .ok (.putfield 232, 3) := by decide +kernel
theorem dX12_draw_15 : decode cX12_draw 15 = .ok (.aload_n 0, 1) := by decide +kernel
theorem dX12_draw_16 : decode cX12_draw 16 = .ok (.getfield 232, 3) := by decide +kernel
theorem dX12_draw_19 : decode cX12_draw 19 = .ok (.bipush 16, 2) := by decide +kernel
theorem dX12_draw_21 : decode cX12_draw 21 = .ok (.ishr, 1) := by decide +kernel
theorem dX12_draw_22 : decode cX12_draw 22 = .ok (.sipush 32767, 3) := by decide +kernel
theorem dX12_draw_25 : decode cX12_draw 25 = .ok (.iand, 1) := by decide +kernel
theorem dX12_draw_26 : decode cX12_draw 26 = .ok (.aload_n 0, 1) := by decide +kernel
theorem dX12_draw_27 : decode cX12_draw 27 = .ok (.invokevirtual 139, 3) := by decide +kernel
theorem dX12_draw_30 : decode cX12_draw 30 = .ok (.irem, 1) := by decide +kernel
theorem dX12_draw_31 : decode cX12_draw 31 = .ok (.ireturn, 1) := by decide +kernel
theorem dX12_hopAt_0 : decode cX12_hopAt 0 = .ok (.aload_n 0, 1) := by decide +kernel
theorem dX12_hopAt_1 : decode cX12_hopAt 1 = .ok (.iload_n 1, 1) := by decide +kernel
theorem dX12_hopAt_2 : decode cX12_hopAt 2 = .ok (.iload_n 2, 1) := by decide +kernel
theorem dX12_hopAt_3 : decode cX12_hopAt 3 = .ok (.iload_n 2, 1) := by decide +kernel
theorem dX12_hopAt_4 : decode cX12_hopAt 4 = .ok (.iconst 1, 1) := by decide +kernel
theorem dX12_hopAt_5 : decode cX12_hopAt 5 = .ok (.iadd, 1) := by decide +kernel
theorem dX12_hopAt_6 : decode cX12_hopAt 6 = .ok (.aload_n 0, 1) := by decide +kernel
theorem dX12_hopAt_7 : decode cX12_hopAt 7 = .ok (.invokevirtual 139, 3) := by decide +kernel
theorem dX12_hopAt_10 : decode cX12_hopAt 10 = .ok (.if_icmp .ge 9, 3) := by decide +kernel
theorem dX12_hopAt_13 : decode cX12_hopAt 13 = .ok (.iload_n 2, 1) := by decide +kernel
theorem dX12_hopAt_14 : decode cX12_hopAt 14 = .ok (.iconst 1, 1) := by decide +kernel
theorem dX12_hopAt_15 : decode cX12_hopAt 15 = .ok (.iadd, 1) := by decide +kernel
theorem dX12_hopAt_16 : decode cX12_hopAt 16 = .ok (.goto 4, 3) := by decide +kernel
theorem dX12_hopAt_19 : decode cX12_hopAt 19 = .ok (.iconst 0, 1) := by decide +kernel
theorem dX12_hopAt_20 : decode cX12_hopAt 20 = .ok (.invokevirtual 146, 3) := by decide +kernel
theorem dX12_hopAt_23 : decode cX12_hopAt 23 = .ok (.ireturn, 1) := by decide +kernel
theorem dX12_run_0 : decode cX12_run 0 = .ok (.aload_n 0, 1) := by decide +kernel
theorem dX12_run_1 : decode cX12_run 1 = .ok (.iload_n 1, 1) := by decide +kernel
theorem dX12_run_2 : decode cX12_run 2 = .ok (.invokevirtual 150, 3) := by decide +kernel
theorem dX12_run_5 : decode cX12_run 5 = .ok (.ifCond .eq 26, 3) := by decide +kernel
theorem dX12_run_8 : decode cX12_run 8 = .ok (.iload_n 3, 1) := by decide +kernel
theorem dX12_run_9 : decode cX12_run 9 = .ok (.i2l, 1) := by decide +kernel
theorem dX12_run_10 : decode cX12_run 10 = .ok (.lconst 0, 1) := by decide +kernel
theorem dX12_run_11 : decode cX12_run 11 = .ok (.ldc2_w 236, 3) := by decide +kernel
theorem dX12_run_14 : decode cX12_run 14 = .ok (.invokestatic 72, 3) := by decide +kernel
theorem dX12_run_17 : decode cX12_run 17 = .ok (.ifCond .eq 14, 3) := by decide +kernel
theorem dX12_run_20 : decode cX12_run 20 = .ok (.iload 4, 2) := by decide +kernel
theorem dX12_run_22 : decode cX12_run 22 = .ok (.i2l, 1) := by decide +kernel
theorem dX12_run_23 : decode cX12_run 23 = .ok (.lconst 0, 1) := by decide +kernel
theorem dX12_run_24 : decode cX12_run 24 = .ok (.lconst 1, 1) := by decide +kernel
theorem dX12_run_25 : decode cX12_run 25 = .ok (.invokestatic 72, 3) := by decide +kernel
theorem dX12_run_28 : decode cX12_run 28 = .ok (.ifCond .ne 5, 3) := by decide +kernel
theorem dX12_run_31 : decode cX12_run 31 = .ok (.iconst (-1), 1) := by decide +kernel
theorem dX12_run_32 : decode cX12_run 32 = .ok (.ireturn, 1) := by decide +kernel
theorem dX12_run_33 : decode cX12_run 33 = .ok (.aload_n 0, 1) := by decide +kernel
theorem dX12_run_34 : decode cX12_run 34 = .ok (.invokevirtual 142, 3) := by decide +kernel
theorem dX12_run_37 : decode cX12_run 37 = .ok (.ifCond .eq 6, 3) := by decide +kernel
theorem dX12_run_40 : decode cX12_run 40 = .ok (.bipush (-2), 2) := by decide +kernel
theorem dX12_run_42 : decode cX12_run 42 = .ok (.ireturn, 1) := by decide +kernel
theorem dX12_run_43 : decode cX12_run 43 = .ok (.aload_n 0, 1) := by decide +kernel
theorem dX12_run_44 : decode cX12_run 44 = .ok (.iload_n 2, 1) := by decide +kernel
theorem dX12_run_45 : decode cX12_run 45 = .ok (.putfield 232, 3) := by decide +kernel
theorem dX12_run_48 : decode cX12_run 48 = .ok (.iload_n 1, 1) := by decide +kernel
theorem dX12_run_49 : decode cX12_run 49 = .ok (.istore 5, 2) := by decide +kernel
theorem dX12_run_51 : decode cX12_run 51 = .ok (.iconst 0, 1) := by decide +kernel
theorem dX12_run_52 : decode cX12_run 52 = .ok (.istore 6, 2) := by decide +kernel
theorem dX12_run_54 : decode cX12_run 54 = .ok (.iconst 0, 1) := by decide +kernel
theorem dX12_run_55 : decode cX12_run 55 = .ok (.istore 7, 2) := by decide +kernel
theorem dX12_run_57 : decode cX12_run 57 = .ok (.iload 7, 2) := by decide +kernel
theorem dX12_run_59 : decode cX12_run 59 = .ok (.iload_n 3, 1) := by decide +kernel
theorem dX12_run_60 : decode cX12_run 60 = .ok (.if_icmp .ge 42, 3) := by decide +kernel
theorem dX12_run_63 : decode cX12_run 63 = .ok (.aload_n 0, 1) := by decide +kernel
theorem dX12_run_64 : decode cX12_run 64 = .ok (.iload 5, 2) := by decide +kernel
theorem dX12_run_66 : decode cX12_run 66 = .ok (.aload_n 0, 1) := by decide +kernel
theorem dX12_run_67 : decode cX12_run 67 = .ok (.invokevirtual 238, 3) := by decide +kernel
theorem dX12_run_70 : decode cX12_run 70 = .ok (.invokevirtual 241, 3) := by decide +kernel
theorem dX12_run_73 : decode cX12_run 73 = .ok (.istore 8, 2) := by decide +kernel
theorem dX12_run_75 : decode cX12_run 75 = .ok (.iload 6, 2) := by decide +kernel
theorem dX12_run_77 : decode cX12_run 77 = .ok (.iload 8, 2) := by decide +kernel
theorem dX12_run_79 : decode cX12_run 79 = .ok (.iload 5, 2) := by decide +kernel
theorem dX12_run_81 : decode cX12_run 81 = .ok (.if_icmp .eq 7, 3) := by decide +kernel
theorem dX12_run_84 : decode cX12_run 84 = .ok (.iconst 1, 1) := by decide +kernel
theorem dX12_run_85 : decode cX12_run 85 = .ok (.goto 4, 3) := by decide +kernel
theorem dX12_run_88 : decode cX12_run 88 = .ok (.iconst 0, 1) := by decide +kernel
theorem dX12_run_89 : decode cX12_run 89 = .ok (.iadd, 1) := by decide +kernel
