theorem dX12_run_90 : decode cX12_run 90 = .ok (.istore 6, 2) := by decide +kernel
theorem dX12_run_92 : decode cX12_run 92 = .ok (.iload 8, 2) := by decide +kernel
theorem dX12_run_94 : decode cX12_run 94 = .ok (.istore 5, 2) := by decide +kernel
theorem dX12_run_96 : decode cX12_run 96 = .ok (.iinc 7 1, 3) := by decide +kernel
theorem dX12_run_99 : decode cX12_run 99 = .ok (.goto (-42), 3) := by decide +kernel
theorem dX12_run_102 : decode cX12_run 102 = .ok (.iload 4, 2) := by decide +kernel
theorem dX12_run_104 : decode cX12_run 104 = .ok (.ifCond .ne 8, 3) := by decide +kernel
theorem dX12_run_107 : decode cX12_run 107 = .ok (.iload 5, 2) := by decide +kernel
theorem dX12_run_109 : decode cX12_run 109 = .ok (.goto 5, 3) := by decide +kernel
theorem dX12_run_112 : decode cX12_run 112 = .ok (.iload 6, 2) := by decide +kernel
theorem dX12_run_114 : decode cX12_run 114 = .ok (.ireturn, 1) := by decide +kernel
theorem dX12_coupled_0 : decode cX12_coupled 0 = .ok (.aload_n 0, 1) := by decide +kernel
theorem dX12_coupled_1 : decode cX12_coupled 1 = .ok (.iload_n 1, 1) := by decide +kernel
theorem dX12_coupled_2 : decode cX12_coupled 2 = .ok (.invokevirtual 150, 3) := by decide +kernel
theorem dX12_coupled_5 : decode cX12_coupled 5 = .ok (.ifCond .eq 37, 3) := by decide +kernel
theorem dX12_coupled_8 : decode cX12_coupled 8 = .ok (.aload_n 0, 1) := by decide +kernel
theorem dX12_coupled_9 : decode cX12_coupled 9 = .ok (.iload_n 2, 1) := by decide +kernel
theorem dX12_coupled_10 : decode cX12_coupled 10 = .ok (.invokevirtual 150, 3) := by decide +kernel
theorem dX12_coupled_13 : decode cX12_coupled 13 = .ok (.ifCond .eq 29, 3) := by decide +kernel
theorem dX12_coupled_16 : decode cX12_coupled 16 = .ok (.iload 4, 2) := by decide +kernel
theorem dX12_coupled_18 : decode cX12_coupled 18 = .ok (.i2l, 1) := by decide +kernel
theorem dX12_coupled_19 : decode cX12_coupled 19 = .ok (.lconst 0, 1) := by decide +kernel
theorem dX12_coupled_20 : decode cX12_coupled 20 = .ok (.ldc2_w 236, 3) := by decide +kernel
theorem dX12_coupled_23 : decode cX12_coupled 23 = .ok (.invokestatic 72, 3) := by decide +kernel
theorem dX12_coupled_26 : decode cX12_coupled 26 = .ok (.ifCond .eq 16, 3) := by decide +kernel
theorem dX12_coupled_29 : decode cX12_coupled 29 = .ok (.iload 5, 2) := by decide +kernel
theorem dX12_coupled_31 : decode cX12_coupled 31 = .ok (.i2l, 1) := by decide +kernel
theorem dX12_coupled_32 : decode cX12_coupled 32 = .ok (.lconst 0, 1) := by decide +kernel
theorem dX12_coupled_33 : decode cX12_coupled 33 = .ok (.ldc2_w 176, 3) := by decide +kernel
theorem dX12_coupled_36 : decode cX12_coupled 36 = .ok (.invokestatic 72, 3) := by decide +kernel
theorem dX12_coupled_39 : decode cX12_coupled 39 = .ok (.ifCond .ne 5, 3) := by decide +kernel
theorem dX12_coupled_42 : decode cX12_coupled 42 = .ok (.iconst (-1), 1) := by decide +kernel
theorem dX12_coupled_43 : decode cX12_coupled 43 = .ok (.ireturn, 1) := by decide +kernel
theorem dX12_coupled_44 : decode cX12_coupled 44 = .ok (.aload_n 0, 1) := by decide +kernel
theorem dX12_coupled_45 : decode cX12_coupled 45 = .ok (.invokevirtual 142, 3) := by decide +kernel
theorem dX12_coupled_48 : decode cX12_coupled 48 = .ok (.ifCond .eq 6, 3) := by decide +kernel
theorem dX12_coupled_51 : decode cX12_coupled 51 = .ok (.bipush (-2), 2) := by decide +kernel
theorem dX12_coupled_53 : decode cX12_coupled 53 = .ok (.ireturn, 1) := by decide +kernel
theorem dX12_coupled_54 : decode cX12_coupled 54 = .ok (.aload_n 0, 1) := by decide +kernel
theorem dX12_coupled_55 : decode cX12_coupled 55 = .ok (.iload_n 3, 1) := by decide +kernel
theorem dX12_coupled_56 : decode cX12_coupled 56 = .ok (.putfield 232, 3) := by decide +kernel
theorem dX12_coupled_59 : decode cX12_coupled 59 = .ok (.iload_n 1, 1) := by decide +kernel
theorem dX12_coupled_60 : decode cX12_coupled 60 = .ok (.istore 6, 2) := by decide +kernel
theorem dX12_coupled_62 : decode cX12_coupled 62 = .ok (.iload_n 2, 1) := by decide +kernel
theorem dX12_coupled_63 : decode cX12_coupled 63 = .ok (.istore 7, 2) := by decide +kernel
theorem dX12_coupled_65 : decode cX12_coupled 65 = .ok (.iload 6, 2) := by decide +kernel
theorem dX12_coupled_67 : decode cX12_coupled 67 = .ok (.iload 7, 2) := by decide +kernel
theorem dX12_coupled_69 : decode cX12_coupled 69 = .ok (.ixor, 1) := by decide +kernel
theorem dX12_coupled_70 : decode cX12_coupled 70 = .ok (.i2l, 1) := by decide +kernel
theorem dX12_coupled_71 : decode cX12_coupled 71 = .ok (.invokestatic 166, 3) := by decide +kernel
theorem dX12_coupled_74 : decode cX12_coupled 74 = .ok (.istore 8, 2) := by decide +kernel
theorem dX12_coupled_76 : decode cX12_coupled 76 = .ok (.iload 6, 2) := by decide +kernel
theorem dX12_coupled_78 : decode cX12_coupled 78 = .ok (.iload 7, 2) := by decide +kernel
theorem dX12_coupled_80 : decode cX12_coupled 80 = .ok (.if_icmp .ne 7, 3) := by decide +kernel
theorem dX12_coupled_83 : decode cX12_coupled 83 = .ok (.iconst 0, 1) := by decide +kernel
theorem dX12_coupled_84 : decode cX12_coupled 84 = .ok (.goto 5, 3) := by decide +kernel
theorem dX12_coupled_87 : decode cX12_coupled 87 = .ok (.bipush (-4), 2) := by decide +kernel
theorem dX12_coupled_89 : decode cX12_coupled 89 = .ok (.istore 9, 2) := by decide +kernel
theorem dX12_coupled_91 : decode cX12_coupled 91 = .ok (.iconst 1, 1) := by decide +kernel
theorem dX12_coupled_92 : decode cX12_coupled 92 = .ok (.istore 10, 2) := by decide +kernel
theorem dX12_coupled_94 : decode cX12_coupled 94 = .ok (.iload 10, 2) := by decide +kernel
theorem dX12_coupled_96 : decode cX12_coupled 96 = .ok (.iload 4, 2) := by decide +kernel
theorem dX12_coupled_98 : decode cX12_coupled 98 = .ok (.if_icmp .gt 90, 3) := by decide +kernel
theorem dX12_coupled_101 : decode cX12_coupled 101 = .ok (.aload_n 0, 1) := by decide +kernel
theorem dX12_coupled_102 : decode cX12_coupled 102 = .ok (.invokevirtual 238, 3) := by decide +kernel
theorem dX12_coupled_105 : decode cX12_coupled 105 = .ok (.istore 11, 2) := by decide +kernel
theorem dX12_coupled_107 : decode cX12_coupled 107 = .ok (.aload_n 0, 1) := by decide +kernel
theorem dX12_coupled_108 : decode cX12_coupled 108 = .ok (.iload 6, 2) := by decide +kernel
theorem dX12_coupled_110 : decode cX12_coupled 110 = .ok (.iload 11, 2) := by decide +kernel
theorem dX12_coupled_112 : decode cX12_coupled 112 = .ok (.invokevirtual 241, 3) := by decide +kernel
theorem dX12_coupled_115 : decode cX12_coupled 115 = .ok (.istore 6, 2) := by decide +kernel
theorem dX12_coupled_117 : decode cX12_coupled 117 = .ok (.aload_n 0, 1) := by decide +kernel
theorem dX12_coupled_118 : decode cX12_coupled 118 = .ok (.iload 7, 2) := by decide +kernel
theorem dX12_coupled_120 : decode cX12_coupled 120 = .ok (.iload 11, 2) := by decide +kernel
theorem dX12_coupled_122 : decode cX12_coupled 122 = .ok (.invokevirtual 241, 3) := by decide +kernel
theorem dX12_coupled_125 : decode cX12_coupled 125 = .ok (.istore 7, 2) := by decide +kernel
theorem dX12_coupled_127 : decode cX12_coupled 127 = .ok (.iload 6, 2) := by decide +kernel
theorem dX12_coupled_129 : decode cX12_coupled 129 = .ok (.iload 7, 2) := by decide +kernel
theorem dX12_coupled_131 : decode cX12_coupled 131 = .ok (.ixor, 1) := by decide +kernel
theorem dX12_coupled_132 : decode cX12_coupled 132 = .ok (.i2l, 1) := by decide +kernel
theorem dX12_coupled_133 : decode cX12_coupled 133 = .ok (.invokestatic 166, 3) := by decide +kernel
theorem dX12_coupled_136 : decode cX12_coupled 136 = .ok (.istore 12, 2) := by decide +kernel
theorem dX12_coupled_138 : decode cX12_coupled 138 = .ok (.iload 12, 2) := by decide +kernel
theorem dX12_coupled_140 : decode cX12_coupled 140 = .ok (.iload 8, 2) := by decide +kernel
theorem dX12_coupled_142 : decode cX12_coupled 142 = .ok (.if_icmp .le 8, 3) := by decide +kernel
theorem dX12_coupled_145 : decode cX12_coupled 145 = .ok (.iload 12, 2) := by decide +kernel
theorem dX12_coupled_147 : decode cX12_coupled 147 = .ok (.goto 5, 3) := by decide +kernel
theorem dX12_coupled_150 : decode cX12_coupled 150 = .ok (.iload 8, 2) := by decide +kernel
theorem dX12_coupled_152 : decode cX12_coupled 152 = .ok (.istore 8, 2) := by decide +kernel
theorem dX12_coupled_154 : decode cX12_coupled 154 = .ok (.iload 6, 2) := by decide +kernel
theorem dX12_coupled_156 : decode cX12_coupled 156 = .ok (.iload 7, 2) := by decide +kernel
theorem dX12_coupled_158 : decode cX12_coupled 158 = .ok (.if_icmp .eq 8, 3) := by decide +kernel
theorem dX12_coupled_161 : decode cX12_coupled 161 = .ok (.bipush (-4), 2) := by decide +kernel
theorem dX12_coupled_163 : decode cX12_coupled 163 = .ok (.goto 17, 3) := by decide +kernel
theorem dX12_coupled_166 : decode cX12_coupled 166 = .ok (.iload 9, 2) := by decide +kernel
theorem dX12_coupled_168 : decode cX12_coupled 168 = .ok (.bipush (-4), 2) := by decide +kernel
theorem dX12_coupled_170 : decode cX12_coupled 170 = .ok (.if_icmp .ne 8, 3) := by decide +kernel
theorem dX12_coupled_173 : decode cX12_coupled 173 = .ok (.iload 10, 2) := by decide +kernel
theorem dX12_coupled_175 : decode cX12_coupled 175 = .ok (.goto 5, 3) := by decide +kernel
theorem dX12_coupled_178 : decode cX12_coupled 178 = .ok (.iload 9, 2) := by decide +kernel
theorem dX12_coupled_180 : decode cX12_coupled 180 = .ok (.istore 9, 2) := by decide +kernel
theorem dX12_coupled_182 : decode cX12_coupled 182 = .ok (.iinc 10 1, 3) := by decide +kernel
theorem dX12_coupled_185 : decode cX12_coupled 185 = .ok (.goto (-91), 3) := by decide +kernel
theorem dX12_coupled_188 : decode cX12_coupled 188 = .ok (.iload 5, 2) := by decide +kernel
theorem dX12_coupled_190 : decode cX12_coupled 190 = .ok (.ifCond .ne 15, 3) := by decide +kernel
theorem dX12_coupled_193 : decode cX12_coupled 193 = .ok (.iload 6, 2) := by decide +kernel
theorem dX12_coupled_195 : decode cX12_coupled 195 = .ok (.iload 7, 2) := by decide +kernel
theorem dX12_coupled_197 : decode cX12_coupled 197 = .ok (.ixor, 1) := by decide +kernel
theorem dX12_coupled_198 : decode cX12_coupled 198 = .ok (.i2l, 1) := by decide +kernel
theorem dX12_coupled_199 : decode cX12_coupled 199 = .ok (.invokestatic 166, 3) := by decide +kernel
theorem dX12_coupled_202 : decode cX12_coupled 202 = .ok (.goto 16, 3) := by decide +kernel
theorem dX12_coupled_205 : decode cX12_coupled 205 = .ok (.iload 5, 2) := by decide +kernel
theorem dX12_coupled_207 : decode cX12_coupled 207 = .ok (.iconst 1, 1) := by decide +kernel
theorem dX12_coupled_208 : decode cX12_coupled 208 = .ok (.if_icmp .ne 8, 3) := by decide +kernel
theorem dX12_coupled_211 : decode cX12_coupled 211 = .ok (.iload 9, 2) := by decide +kernel
theorem dX12_coupled_213 : decode cX12_coupled 213 = .ok (.goto 5, 3) := by decide +kernel
theorem dX12_coupled_216 : decode cX12_coupled 216 = .ok (.iload 8, 2) := by decide +kernel
theorem dX12_coupled_218 : decode cX12_coupled 218 = .ok (.ireturn, 1) := by decide +kernel
theorem dX12_isRim_0 : decode cX12_isRim 0 = .ok (.iload_n 0, 1) := by decide +kernel
theorem dX12_isRim_1 : decode cX12_isRim 1 = .ok (.i2l, 1) := by decide +kernel
theorem dX12_isRim_2 : decode cX12_isRim 2 = .ok (.lconst 0, 1) := by decide +kernel
theorem dX12_isRim_3 : decode cX12_isRim 3 = .ok (.ldc2_w 244, 3) := by decide +kernel
theorem dX12_isRim_6 : decode cX12_isRim 6 = .ok (.invokestatic 72, 3) := by decide +kernel
theorem dX12_isRim_9 : decode cX12_isRim 9 = .ok (.ireturn, 1) := by decide +kernel
theorem dX12_ordersOf_0 : decode cX12_ordersOf 0 = .ok (.iconst 0, 1) := by decide +kernel
theorem dX12_ordersOf_1 : decode cX12_ordersOf 1 = .ok (.istore_n 3, 1) := by decide +kernel
theorem dX12_ordersOf_2 : decode cX12_ordersOf 2 = .ok (.iload_n 3, 1) := by decide +kernel
theorem dX12_ordersOf_3 : decode cX12_ordersOf 3 = .ok (.sipush 256, 3) := by decide +kernel
theorem dX12_ordersOf_6 : decode cX12_ordersOf 6 = .ok (.if_icmp .ge 25, 3) := by decide +kernel
theorem dX12_ordersOf_9 : decode cX12_ordersOf 9 = .ok (.aload_n 0, 1) := by decide +kernel
theorem dX12_ordersOf_10 : decode cX12_ordersOf 10 = .ok (.getfield 44, 3) := by decide +kernel
theorem dX12_ordersOf_13 : decode cX12_ordersOf 13 = .ok (.iload_n 3, 1) := by decide +kernel
theorem dX12_ordersOf_14 : decode cX12_ordersOf 14 = .ok (.iload_n 3, 1) := by decide +kernel
theorem dX12_ordersOf_15 : decode cX12_ordersOf 15 = .ok (.iload_n 1, 1) := by decide +kernel
theorem dX12_ordersOf_16 : decode cX12_ordersOf 16 = .ok (.if_icmp .ne 7, 3) := by decide +kernel
theorem dX12_ordersOf_19 : decode cX12_ordersOf 19 = .ok (.lconst 1, 1) := by decide +kernel
theorem dX12_ordersOf_20 : decode cX12_ordersOf 20 = .ok (.goto 4, 3) := by decide +kernel
theorem dX12_ordersOf_23 : decode cX12_ordersOf 23 = .ok (.lconst 0, 1) := by decide +kernel
theorem dX12_ordersOf_24 : decode cX12_ordersOf 24 = .ok (.lastore, 1) := by decide +kernel
theorem dX12_ordersOf_25 : decode cX12_ordersOf 25 = .ok (.iinc 3 1, 3) := by decide +kernel
theorem dX12_ordersOf_28 : decode cX12_ordersOf 28 = .ok (.goto (-26), 3) := by decide +kernel
theorem dX12_ordersOf_31 : decode cX12_ordersOf 31 = .ok (.iconst 0, 1) := by decide +kernel
theorem dX12_ordersOf_32 : decode cX12_ordersOf 32 = .ok (.istore_n 3, 1) := by decide +kernel
theorem dX12_ordersOf_33 : decode cX12_ordersOf 33 = .ok (.iload_n 3, 1) := by decide +kernel
theorem dX12_ordersOf_34 : decode cX12_ordersOf 34 = .ok (.sipush 256, 3) := by decide +kernel
theorem dX12_ordersOf_37 : decode cX12_ordersOf 37 = .ok (.if_icmp .ge 60, 3) := by decide +kernel
theorem dX12_ordersOf_40 : decode cX12_ordersOf 40 = .ok (.iconst 0, 1) := by decide +kernel
theorem dX12_ordersOf_41 : decode cX12_ordersOf 41 = .ok (.istore 4, 2) := by decide +kernel
theorem dX12_ordersOf_43 : decode cX12_ordersOf 43 = .ok (.iload 4, 2) := by decide +kernel
theorem dX12_ordersOf_45 : decode cX12_ordersOf 45 = .ok (.bipush 7, 2) := by decide +kernel
theorem dX12_ordersOf_47 : decode cX12_ordersOf 47 = .ok (.if_icmp .ge 44, 3) := by decide +kernel
theorem dX12_ordersOf_50 : decode cX12_ordersOf 50 = .ok (.aload_n 0, 1) := by decide +kernel
theorem dX12_ordersOf_51 : decode cX12_ordersOf 51 = .ok (.iload_n 3, 1) := by decide +kernel
theorem dX12_ordersOf_52 : decode cX12_ordersOf 52 = .ok (.iload 4, 2) := by decide +kernel
theorem dX12_ordersOf_54 : decode cX12_ordersOf 54 = .ok (.iload 4, 2) := by decide +kernel
theorem dX12_ordersOf_56 : decode cX12_ordersOf 56 = .ok (.iconst 1, 1) := by decide +kernel
theorem dX12_ordersOf_57 : decode cX12_ordersOf 57 = .ok (.iadd, 1) := by decide +kernel
theorem dX12_ordersOf_58 : decode cX12_ordersOf 58 = .ok (.invokevirtual 146, 3) := by decide +kernel
theorem dX12_ordersOf_61 : decode cX12_ordersOf 61 = .ok (.istore 5, 2) := by decide +kernel
theorem dX12_ordersOf_63 : decode cX12_ordersOf 63 = .ok (.iload 5, 2) := by decide +kernel
theorem dX12_ordersOf_65 : decode cX12_ordersOf 65 = .ok (.iload_n 3, 1) := by decide +kernel
theorem dX12_ordersOf_66 : decode cX12_ordersOf 66 = .ok (.if_icmp .eq 19, 3) := by decide +kernel
theorem dX12_ordersOf_69 : decode cX12_ordersOf 69 = .ok (.aload_n 0, 1) := by decide +kernel
theorem dX12_ordersOf_70 : decode cX12_ordersOf 70 = .ok (.getfield 44, 3) := by decide +kernel
theorem dX12_ordersOf_73 : decode cX12_ordersOf 73 = .ok (.iload 5, 2) := by decide +kernel
theorem dX12_ordersOf_75 : decode cX12_ordersOf 75 = .ok (.dup2, 1) := by decide +kernel
theorem dX12_ordersOf_76 : decode cX12_ordersOf 76 = .ok (.laload, 1) := by decide +kernel
theorem dX12_ordersOf_77 : decode cX12_ordersOf 77 = .ok (.aload_n 0, 1) := by decide +kernel
theorem dX12_ordersOf_78 : decode cX12_ordersOf 78 = .ok (.getfield 44, 3) := by decide +kernel
theorem dX12_ordersOf_81 : decode cX12_ordersOf 81 = .ok (.iload_n 3, 1) := by decide +kernel
theorem dX12_ordersOf_82 : decode cX12_ordersOf 82 = .ok (.laload, 1) := by decide +kernel
theorem dX12_ordersOf_83 : decode cX12_ordersOf 83 = .ok (.ladd, 1) := by decide +kernel
theorem dX12_ordersOf_84 : decode cX12_ordersOf 84 = .ok (.lastore, 1) := by decide +kernel
theorem dX12_ordersOf_85 : decode cX12_ordersOf 85 = .ok (.iinc 4 1, 3) := by decide +kernel
theorem dX12_ordersOf_88 : decode cX12_ordersOf 88 = .ok (.goto (-45), 3) := by decide +kernel
theorem dX12_ordersOf_91 : decode cX12_ordersOf 91 = .ok (.iinc 3 1, 3) := by decide +kernel
theorem dX12_ordersOf_94 : decode cX12_ordersOf 94 = .ok (.goto (-61), 3) := by decide +kernel
theorem dX12_ordersOf_97 : decode cX12_ordersOf 97 = .ok (.aload_n 0, 1) := by decide +kernel
theorem dX12_ordersOf_98 : decode cX12_ordersOf 98 = .ok (.getfield 44, 3) := by decide +kernel
theorem dX12_ordersOf_101 : decode cX12_ordersOf 101 = .ok (.iload_n 2, 1) := by decide +kernel
theorem dX12_ordersOf_102 : decode cX12_ordersOf 102 = .ok (.laload, 1) := by decide +kernel
theorem dX12_ordersOf_103 : decode cX12_ordersOf 103 = .ok (.lreturn, 1) := by decide +kernel
theorem dX12_weightSum_0 : decode cX12_weightSum 0 = .ok (.iconst 0, 1) := by decide +kernel
theorem dX12_weightSum_1 : decode cX12_weightSum 1 = .ok (.istore_n 1, 1) := by decide +kernel
theorem dX12_weightSum_2 : decode cX12_weightSum 2 = .ok (.iconst 0, 1) := by decide +kernel
theorem dX12_weightSum_3 : decode cX12_weightSum 3 = .ok (.istore_n 2, 1) := by decide +kernel
theorem dX12_weightSum_4 : decode cX12_weightSum 4 = .ok (.iload_n 2, 1) := by decide +kernel
theorem dX12_weightSum_5 : decode cX12_weightSum 5 = .ok (.bipush 8, 2) := by decide +kernel
theorem dX12_weightSum_7 : decode cX12_weightSum 7 = .ok (.if_icmp .ge 26, 3) := by decide +kernel
theorem dX12_weightSum_10 : decode cX12_weightSum 10 = .ok (.iload_n 1, 1) := by decide +kernel
theorem dX12_weightSum_11 : decode cX12_weightSum 11 = .ok (.iload_n 0, 1) := by decide +kernel
theorem dX12_weightSum_12 : decode cX12_weightSum 12 = .ok (.iload_n 2, 1) := by decide +kernel
theorem dX12_weightSum_13 : decode cX12_weightSum 13 = .ok (.ishr, 1) := by decide +kernel
theorem dX12_weightSum_14 : decode cX12_weightSum 14 = .ok (.iconst 1, 1) := by decide +kernel
theorem dX12_weightSum_15 : decode cX12_weightSum 15 = .ok (.iand, 1) := by decide +kernel
theorem dX12_weightSum_16 : decode cX12_weightSum 16 = .ok (.iconst 1, 1) := by decide +kernel
theorem dX12_weightSum_17 : decode cX12_weightSum 17 = .ok (.if_icmp .ne 7, 3) := by decide +kernel
theorem dX12_weightSum_20 : decode cX12_weightSum 20 = .ok (.iload_n 2, 1) := by decide +kernel
theorem dX12_weightSum_21 : decode cX12_weightSum 21 = .ok (.goto 4, 3) := by decide +kernel
theorem dX12_weightSum_24 : decode cX12_weightSum 24 = .ok (.iconst 0, 1) := by decide +kernel
theorem dX12_weightSum_25 : decode cX12_weightSum 25 = .ok (.iadd, 1) := by decide +kernel
theorem dX12_weightSum_26 : decode cX12_weightSum 26 = .ok (.istore_n 1, 1) := by decide +kernel
theorem dX12_weightSum_27 : decode cX12_weightSum 27 = .ok (.iinc 2 1, 3) := by decide +kernel
theorem dX12_weightSum_30 : decode cX12_weightSum 30 = .ok (.goto (-26), 3) := by decide +kernel
theorem dX12_weightSum_33 : decode cX12_weightSum 33 = .ok (.iload_n 1, 1) := by decide +kernel
theorem dX12_weightSum_34 : decode cX12_weightSum 34 = .ok (.ireturn, 1) := by decide +kernel
theorem dX12_cells_0 : decode cX12_cells 0 = .ok (.iload_n 1, 1) := by decide +kernel
theorem dX12_cells_1 : decode cX12_cells 1 = .ok (.invokestatic 246, 3) := by decide +kernel
theorem dX12_cells_4 : decode cX12_cells 4 = .ok (.ifCond .eq 10, 3) := by decide +kernel
theorem dX12_cells_7 : decode cX12_cells 7 = .ok (.iload_n 2, 1) := by decide +kernel
theorem dX12_cells_8 : decode cX12_cells 8 = .ok (.invokestatic 246, 3) := by decide +kernel
theorem dX12_cells_11 : decode cX12_cells 11 = .ok (.ifCond .ne 5, 3) := by decide +kernel
theorem dX12_cells_14 : decode cX12_cells 14 = .ok (.iconst (-1), 1) := by decide +kernel
theorem dX12_cells_15 : decode cX12_cells 15 = .ok (.ireturn, 1) := by decide +kernel
theorem dX12_cells_16 : decode cX12_cells 16 = .ok (.aload_n 0, 1) := by decide +kernel
theorem dX12_cells_17 : decode cX12_cells 17 = .ok (.iload_n 1, 1) := by decide +kernel
theorem dX12_cells_18 : decode cX12_cells 18 = .ok (.iload_n 2, 1) := by decide +kernel
theorem dX12_cells_19 : decode cX12_cells 19 = .ok (.invokevirtual 249, 3) := by decide +kernel
theorem dX12_cells_22 : decode cX12_cells 22 = .ok (.lconst 0, 1) := by decide +kernel
theorem dX12_cells_23 : decode cX12_cells 23 = .ok (.lcmp, 1) := by decide +kernel
theorem dX12_cells_24 : decode cX12_cells 24 = .ok (.ifCond .ne 8, 3) := by decide +kernel
theorem dX12_cells_27 : decode cX12_cells 27 = .ok (.bipush (-4), 2) := by decide +kernel
theorem dX12_cells_29 : decode cX12_cells 29 = .ok (.goto 12, 3) := by decide +kernel
theorem dX12_cells_32 : decode cX12_cells 32 = .ok (.iload_n 2, 1) := by decide +kernel
theorem dX12_cells_33 : decode cX12_cells 33 = .ok (.invokestatic 253, 3) := by decide +kernel
theorem dX12_cells_36 : decode cX12_cells 36 = .ok (.iload_n 1, 1) := by decide +kernel
theorem dX12_cells_37 : decode cX12_cells 37 = .ok (.invokestatic 253, 3) := by decide +kernel
theorem dX12_cells_40 : decode cX12_cells 40 = .ok (.isub, 1) := by decide +kernel
theorem dX12_cells_41 : decode cX12_cells 41 = .ok (.ireturn, 1) := by decide +kernel
theorem dX12_orders_0 : decode cX12_orders 0 = .ok (.iload_n 1, 1) := by decide +kernel
theorem dX12_orders_1 : decode cX12_orders 1 = .ok (.invokestatic 246, 3) := by decide +kernel
theorem dX12_orders_4 : decode cX12_orders 4 = .ok (.ifCond .eq 19, 3) := by decide +kernel
theorem dX12_orders_7 : decode cX12_orders 7 = .ok (.iload_n 2, 1) := by decide +kernel
theorem dX12_orders_8 : decode cX12_orders 8 = .ok (.invokestatic 246, 3) := by decide +kernel
theorem dX12_orders_11 : decode cX12_orders 11 = .ok (.ifCond .eq 12, 3) := by decide +kernel
theorem dX12_orders_14 : decode cX12_orders 14 = .ok (.aload_n 0, 1) := by decide +kernel
theorem dX12_orders_15 : decode cX12_orders 15 = .ok (.iload_n 1, 1) := by decide +kernel
theorem dX12_orders_16 : decode cX12_orders 16 = .ok (.iload_n 2, 1) := by decide +kernel
theorem dX12_orders_17 : decode cX12_orders 17 = .ok (.invokevirtual 249, 3) := by decide +kernel
theorem dX12_orders_20 : decode cX12_orders 20 = .ok (.goto 6, 3) := by decide +kernel
theorem dX12_orders_23 : decode cX12_orders 23 = .ok (.ldc2_w 187, 3) := by decide +kernel
theorem dX12_orders_26 : decode cX12_orders 26 = .ok (.lreturn, 1) := by decide +kernel
theorem dX12_stepped_0 : decode cX12_stepped 0 = .ok (.iconst 0, 1) := by decide +kernel
theorem dX12_stepped_1 : decode cX12_stepped 1 = .ok (.istore_n 3, 1) := by decide +kernel
theorem dX12_stepped_2 : decode cX12_stepped 2 = .ok (.iconst 0, 1) := by decide +kernel
theorem dX12_stepped_3 : decode cX12_stepped 3 = .ok (.istore 4, 2) := by decide +kernel
theorem dX12_stepped_5 : decode cX12_stepped 5 = .ok (.iload 4, 2) := by decide +kernel
theorem dX12_stepped_7 : decode cX12_stepped 7 = .ok (.iload_n 1, 1) := by decide +kernel
theorem dX12_stepped_8 : decode cX12_stepped 8 = .ok (.if_icmp .ge 67, 3) := by decide +kernel
theorem dX12_stepped_11 : decode cX12_stepped 11 = .ok (.aload_n 0, 1) := by decide +kernel
theorem dX12_stepped_12 : decode cX12_stepped 12 = .ok (.getfield 53, 3) := by decide +kernel
theorem dX12_stepped_15 : decode cX12_stepped 15 = .ok (.iload 4, 2) := by decide +kernel
theorem dX12_stepped_17 : decode cX12_stepped 17 = .ok (.iaload, 1) := by decide +kernel
theorem dX12_stepped_18 : decode cX12_stepped 18 = .ok (.iload_n 2, 1) := by decide +kernel
theorem dX12_stepped_19 : decode cX12_stepped 19 = .ok (.iload 4, 2) := by decide +kernel
theorem dX12_stepped_21 : decode cX12_stepped 21 = .ok (.ishr, 1) := by decide +kernel
theorem dX12_stepped_22 : decode cX12_stepped 22 = .ok (.iconst 1, 1) := by decide +kernel
theorem dX12_stepped_23 : decode cX12_stepped 23 = .ok (.iand, 1) := by decide +kernel
theorem dX12_stepped_24 : decode cX12_stepped 24 = .ok (.iconst 1, 1) := by decide +kernel
theorem dX12_stepped_25 : decode cX12_stepped 25 = .ok (.if_icmp .ne 7, 3) := by decide +kernel
theorem dX12_stepped_28 : decode cX12_stepped 28 = .ok (.iconst 1, 1) := by decide +kernel
theorem dX12_stepped_29 : decode cX12_stepped 29 = .ok (.goto 4, 3) := by decide +kernel
theorem dX12_stepped_32 : decode cX12_stepped 32 = .ok (.iconst (-1), 1) := by decide +kernel
theorem dX12_stepped_33 : decode cX12_stepped 33 = .ok (.iadd, 1) := by decide +kernel
theorem dX12_stepped_34 : decode cX12_stepped 34 = .ok (.istore 5, 2) := by decide +kernel
theorem dX12_stepped_36 : decode cX12_stepped 36 = .ok (.iload 5, 2) := by decide +kernel
theorem dX12_stepped_38 : decode cX12_stepped 38 = .ok (.i2l, 1) := by decide +kernel
theorem dX12_stepped_39 : decode cX12_stepped 39 = .ok (.lconst 0, 1) := by decide +kernel
theorem dX12_stepped_40 : decode cX12_stepped 40 = .ok (.ldc2_w 256, 3) := by decide +kernel
theorem dX12_stepped_43 : decode cX12_stepped 43 = .ok (.invokestatic 72, 3) := by decide +kernel
theorem dX12_stepped_46 : decode cX12_stepped 46 = .ok (.ifCond .eq 13, 3) := by decide +kernel
theorem dX12_stepped_49 : decode cX12_stepped 49 = .ok (.iload_n 3, 1) := by decide +kernel
theorem dX12_stepped_50 : decode cX12_stepped 50 = .ok (.iload 5, 2) := by decide +kernel
theorem dX12_stepped_52 : decode cX12_stepped 52 = .ok (.ishr, 1) := by decide +kernel
theorem dX12_stepped_53 : decode cX12_stepped 53 = .ok (.iconst 1, 1) := by decide +kernel
theorem dX12_stepped_54 : decode cX12_stepped 54 = .ok (.iand, 1) := by decide +kernel
theorem dX12_stepped_55 : decode cX12_stepped 55 = .ok (.iconst 1, 1) := by decide +kernel
theorem dX12_stepped_56 : decode cX12_stepped 56 = .ok (.if_icmp .ne 6, 3) := by decide +kernel
theorem dX12_stepped_59 : decode cX12_stepped 59 = .ok (.bipush (-4), 2) := by decide +kernel
theorem dX12_stepped_61 : decode cX12_stepped 61 = .ok (.ireturn, 1) := by decide +kernel
theorem dX12_stepped_62 : decode cX12_stepped 62 = .ok (.iload_n 3, 1) := by decide +kernel
theorem dX12_stepped_63 : decode cX12_stepped 63 = .ok (.iconst 1, 1) := by decide +kernel
theorem dX12_stepped_64 : decode cX12_stepped 64 = .ok (.iload 5, 2) := by decide +kernel
theorem dX12_stepped_66 : decode cX12_stepped 66 = .ok (.ishl, 1) := by decide +kernel
theorem dX12_stepped_67 : decode cX12_stepped 67 = .ok (.ior, 1) := by decide +kernel
theorem dX12_stepped_68 : decode cX12_stepped 68 = .ok (.istore_n 3, 1) := by decide +kernel
theorem dX12_stepped_69 : decode cX12_stepped 69 = .ok (.iinc 4 1, 3) := by decide +kernel
theorem dX12_stepped_72 : decode cX12_stepped 72 = .ok (.goto (-67), 3) := by decide +kernel
theorem dX12_stepped_75 : decode cX12_stepped 75 = .ok (.iload_n 3, 1) := by decide +kernel
theorem dX12_stepped_76 : decode cX12_stepped 76 = .ok (.ireturn, 1) := by decide +kernel
theorem dX12_ways_0 : decode cX12_ways 0 = .ok (.iload_n 1, 1) := by decide +kernel
theorem dX12_ways_1 : decode cX12_ways 1 = .ok (.i2l, 1) := by decide +kernel
theorem dX12_ways_2 : decode cX12_ways 2 = .ok (.lconst 0, 1) := by decide +kernel
theorem dX12_ways_3 : decode cX12_ways 3 = .ok (.ldc2_w 258, 3) := by decide +kernel
theorem dX12_ways_6 : decode cX12_ways 6 = .ok (.invokestatic 72, 3) := by decide +kernel
theorem dX12_ways_9 : decode cX12_ways 9 = .ok (.ifCond .eq 56, 3) := by decide +kernel
theorem dX12_ways_12 : decode cX12_ways 12 = .ok (.iload_n 2, 1) := by decide +kernel
theorem dX12_ways_13 : decode cX12_ways 13 = .ok (.i2l, 1) := by decide +kernel
theorem dX12_ways_14 : decode cX12_ways 14 = .ok (.lconst 0, 1) := by decide +kernel
theorem dX12_ways_15 : decode cX12_ways 15 = .ok (.ldc2_w 258, 3) := by decide +kernel
theorem dX12_ways_18 : decode cX12_ways 18 = .ok (.invokestatic 72, 3) := by decide +kernel
theorem dX12_ways_21 : decode cX12_ways 21 = .ok (.ifCond .eq 44, 3) := by decide +kernel
theorem dX12_ways_24 : decode cX12_ways 24 = .ok (.iload_n 3, 1) := by decide +kernel
theorem dX12_ways_25 : decode cX12_ways 25 = .ok (.i2l, 1) := by decide +kernel
theorem dX12_ways_26 : decode cX12_ways 26 = .ok (.lconst 0, 1) := by decide +kernel
theorem dX12_ways_27 : decode cX12_ways 27 = .ok (.ldc2_w 260, 3) := by decide +kernel
theorem dX12_ways_30 : decode cX12_ways 30 = .ok (.invokestatic 72, 3) := by decide +kernel
theorem dX12_ways_33 : decode cX12_ways 33 = .ok (.ifCond .eq 32, 3) := by decide +kernel
theorem dX12_ways_36 : decode cX12_ways 36 = .ok (.iload_n 1, 1) := by decide +kernel
theorem dX12_ways_37 : decode cX12_ways 37 = .ok (.i2l, 1) := by decide +kernel
theorem dX12_ways_38 : decode cX12_ways 38 = .ok (.invokestatic 166, 3) := by decide +kernel
theorem dX12_ways_41 : decode cX12_ways 41 = .ok (.i2l, 1) := by decide +kernel
theorem dX12_ways_42 : decode cX12_ways 42 = .ok (.lconst 1, 1) := by decide +kernel
theorem dX12_ways_43 : decode cX12_ways 43 = .ok (.ldc2_w 262, 3) := by decide +kernel
theorem dX12_ways_46 : decode cX12_ways 46 = .ok (.invokestatic 72, 3) := by decide +kernel
theorem dX12_ways_49 : decode cX12_ways 49 = .ok (.ifCond .eq 16, 3) := by decide +kernel
theorem dX12_ways_52 : decode cX12_ways 52 = .ok (.iload_n 2, 1) := by decide +kernel
theorem dX12_ways_53 : decode cX12_ways 53 = .ok (.i2l, 1) := by decide +kernel
theorem dX12_ways_54 : decode cX12_ways 54 = .ok (.invokestatic 166, 3) := by decide +kernel
theorem dX12_ways_57 : decode cX12_ways 57 = .ok (.iload_n 1, 1) := by decide +kernel
theorem dX12_ways_58 : decode cX12_ways 58 = .ok (.i2l, 1) := by decide +kernel
theorem dX12_ways_59 : decode cX12_ways 59 = .ok (.invokestatic 166, 3) := by decide +kernel
theorem dX12_ways_62 : decode cX12_ways 62 = .ok (.if_icmp .eq 7, 3) := by decide +kernel
theorem dX12_ways_65 : decode cX12_ways 65 = .ok (.ldc2_w 187, 3) := by decide +kernel
theorem dX12_ways_68 : decode cX12_ways 68 = .ok (.lreturn, 1) := by decide +kernel
theorem dX12_ways_69 : decode cX12_ways 69 = .ok (.iload_n 1, 1) := by decide +kernel
theorem dX12_ways_70 : decode cX12_ways 70 = .ok (.i2l, 1) := by decide +kernel
theorem dX12_ways_71 : decode cX12_ways 71 = .ok (.invokestatic 166, 3) := by decide +kernel
theorem dX12_ways_74 : decode cX12_ways 74 = .ok (.istore 4, 2) := by decide +kernel
theorem dX12_ways_76 : decode cX12_ways 76 = .ok (.iconst 0, 1) := by decide +kernel
theorem dX12_ways_77 : decode cX12_ways 77 = .ok (.istore 5, 2) := by decide +kernel
theorem dX12_ways_79 : decode cX12_ways 79 = .ok (.iload 5, 2) := by decide +kernel
theorem dX12_ways_81 : decode cX12_ways 81 = .ok (.sipush 4096, 3) := by decide +kernel
theorem dX12_ways_84 : decode cX12_ways 84 = .ok (.if_icmp .ge 27, 3) := by decide +kernel
theorem dX12_ways_87 : decode cX12_ways 87 = .ok (.aload_n 0, 1) := by decide +kernel
theorem dX12_ways_88 : decode cX12_ways 88 = .ok (.getfield 47, 3) := by decide +kernel
theorem dX12_ways_91 : decode cX12_ways 91 = .ok (.iload 5, 2) := by decide +kernel
theorem dX12_ways_93 : decode cX12_ways 93 = .ok (.iload 5, 2) := by decide +kernel
theorem dX12_ways_95 : decode cX12_ways 95 = .ok (.iload_n 1, 1) := by decide +kernel
theorem dX12_ways_96 : decode cX12_ways 96 = .ok (.if_icmp .ne 7, 3) := by decide +kernel
theorem dX12_ways_99 : decode cX12_ways 99 = .ok (.lconst 1, 1) := by decide +kernel
theorem dX12_ways_100 : decode cX12_ways 100 = .ok (.goto 4, 3) := by decide +kernel
theorem dX12_ways_103 : decode cX12_ways 103 = .ok (.lconst 0, 1) := by decide +kernel
theorem dX12_ways_104 : decode cX12_ways 104 = .ok (.lastore, 1) := by decide +kernel
theorem dX12_ways_105 : decode cX12_ways 105 = .ok (.iinc 5 1, 3) := by decide +kernel
theorem dX12_ways_108 : decode cX12_ways 108 = .ok (.goto (-29), 3) := by decide +kernel
theorem dX12_ways_111 : decode cX12_ways 111 = .ok (.iconst 0, 1) := by decide +kernel
theorem dX12_ways_112 : decode cX12_ways 112 = .ok (.istore 5, 2) := by decide +kernel
theorem dX12_ways_114 : decode cX12_ways 114 = .ok (.iload 5, 2) := by decide +kernel
theorem dX12_ways_116 : decode cX12_ways 116 = .ok (.iload_n 3, 1) := by decide +kernel
theorem dX12_ways_117 : decode cX12_ways 117 = .ok (.if_icmp .ge 188, 3) := by decide +kernel
theorem dX12_ways_120 : decode cX12_ways 120 = .ok (.iconst 0, 1) := by decide +kernel
theorem dX12_ways_121 : decode cX12_ways 121 = .ok (.istore 6, 2) := by decide +kernel
theorem dX12_ways_123 : decode cX12_ways 123 = .ok (.iload 6, 2) := by decide +kernel
theorem dX12_ways_125 : decode cX12_ways 125 = .ok (.sipush 4096, 3) := by decide +kernel
theorem dX12_ways_128 : decode cX12_ways 128 = .ok (.if_icmp .ge 17, 3) := by decide +kernel
theorem dX12_ways_131 : decode cX12_ways 131 = .ok (.aload_n 0, 1) := by decide +kernel
theorem dX12_ways_132 : decode cX12_ways 132 = .ok (.getfield 50, 3) := by decide +kernel
theorem dX12_ways_135 : decode cX12_ways 135 = .ok (.iload 6, 2) := by decide +kernel
theorem dX12_ways_137 : decode cX12_ways 137 = .ok (.lconst 0, 1) := by decide +kernel
theorem dX12_ways_138 : decode cX12_ways 138 = .ok (.lastore, 1) := by decide +kernel
theorem dX12_ways_139 : decode cX12_ways 139 = .ok (.iinc 6 1, 3) := by decide +kernel
theorem dX12_ways_142 : decode cX12_ways 142 = .ok (.goto (-19), 3) := by decide +kernel
theorem dX12_ways_145 : decode cX12_ways 145 = .ok (.iconst 0, 1) := by decide +kernel
theorem dX12_ways_146 : decode cX12_ways 146 = .ok (.istore 6, 2) := by decide +kernel
theorem dX12_ways_148 : decode cX12_ways 148 = .ok (.iload 6, 2) := by decide +kernel
theorem dX12_ways_150 : decode cX12_ways 150 = .ok (.sipush 4096, 3) := by decide +kernel
theorem dX12_ways_153 : decode cX12_ways 153 = .ok (.if_icmp .ge 115, 3) := by decide +kernel
theorem dX12_ways_156 : decode cX12_ways 156 = .ok (.aload_n 0, 1) := by decide +kernel
theorem dX12_ways_157 : decode cX12_ways 157 = .ok (.getfield 47, 3) := by decide +kernel
theorem dX12_ways_160 : decode cX12_ways 160 = .ok (.iload 6, 2) := by decide +kernel
theorem dX12_ways_162 : decode cX12_ways 162 = .ok (.laload, 1) := by decide +kernel
theorem dX12_ways_163 : decode cX12_ways 163 = .ok (.lconst 0, 1) := by decide +kernel
theorem dX12_ways_164 : decode cX12_ways 164 = .ok (.lcmp, 1) := by decide +kernel
theorem dX12_ways_165 : decode cX12_ways 165 = .ok (.ifCond .le 97, 3) := by decide +kernel
theorem dX12_ways_168 : decode cX12_ways 168 = .ok (.iconst 0, 1) := by decide +kernel
theorem dX12_ways_169 : decode cX12_ways 169 = .ok (.istore 7, 2) := by decide +kernel
theorem dX12_ways_171 : decode cX12_ways 171 = .ok (.iconst 0, 1) := by decide +kernel
theorem dX12_ways_172 : decode cX12_ways 172 = .ok (.istore 8, 2) := by decide +kernel
theorem dX12_ways_174 : decode cX12_ways 174 = .ok (.iload 8, 2) := by decide +kernel
theorem dX12_ways_176 : decode cX12_ways 176 = .ok (.bipush 12, 2) := by decide +kernel
theorem dX12_ways_178 : decode cX12_ways 178 = .ok (.if_icmp .ge 32, 3) := by decide +kernel
theorem dX12_ways_181 : decode cX12_ways 181 = .ok (.iload 6, 2) := by decide +kernel
theorem dX12_ways_183 : decode cX12_ways 183 = .ok (.iload 8, 2) := by decide +kernel
theorem dX12_ways_185 : decode cX12_ways 185 = .ok (.ishr, 1) := by decide +kernel
theorem dX12_ways_186 : decode cX12_ways 186 = .ok (.iconst 1, 1) := by decide +kernel
theorem dX12_ways_187 : decode cX12_ways 187 = .ok (.iand, 1) := by decide +kernel
theorem dX12_ways_188 : decode cX12_ways 188 = .ok (.iconst 1, 1) := by decide +kernel
theorem dX12_ways_189 : decode cX12_ways 189 = .ok (.if_icmp .ne 15, 3) := by decide +kernel
theorem dX12_ways_192 : decode cX12_ways 192 = .ok (.aload_n 0, 1) := by decide +kernel
theorem dX12_ways_193 : decode cX12_ways 193 = .ok (.getfield 53, 3) := by decide +kernel
theorem dX12_ways_196 : decode cX12_ways 196 = .ok (.iload 7, 2) := by decide +kernel
theorem dX12_ways_198 : decode cX12_ways 198 = .ok (.iload 8, 2) := by decide +kernel
theorem dX12_ways_200 : decode cX12_ways 200 = .ok (.iastore, 1) := by decide +kernel
theorem dX12_ways_201 : decode cX12_ways 201 = .ok (.iinc 7 1, 3) := by decide +kernel
theorem dX12_ways_204 : decode cX12_ways 204 = .ok (.iinc 8 1, 3) := by decide +kernel
theorem dX12_ways_207 : decode cX12_ways 207 = .ok (.goto (-33), 3) := by decide +kernel
theorem dX12_ways_210 : decode cX12_ways 210 = .ok (.iconst 0, 1) := by decide +kernel
theorem dX12_ways_211 : decode cX12_ways 211 = .ok (.istore 8, 2) := by decide +kernel
theorem dX12_ways_213 : decode cX12_ways 213 = .ok (.iload 8, 2) := by decide +kernel
theorem dX12_ways_215 : decode cX12_ways 215 = .ok (.iconst 1, 1) := by decide +kernel
theorem dX12_ways_216 : decode cX12_ways 216 = .ok (.iload 4, 2) := by decide +kernel
theorem dX12_ways_218 : decode cX12_ways 218 = .ok (.ishl, 1) := by decide +kernel
theorem dX12_ways_219 : decode cX12_ways 219 = .ok (.if_icmp .ge 43, 3) := by decide +kernel
theorem dX12_ways_222 : decode cX12_ways 222 = .ok (.aload_n 0, 1) := by decide +kernel
theorem dX12_ways_223 : decode cX12_ways 223 = .ok (.iload 4, 2) := by decide +kernel
theorem dX12_ways_225 : decode cX12_ways 225 = .ok (.iload 8, 2) := by decide +kernel
theorem dX12_ways_227 : decode cX12_ways 227 = .ok (.invokevirtual 264, 3) := by decide +kernel
theorem dX12_ways_230 : decode cX12_ways 230 = .ok (.istore 9, 2) := by decide +kernel
theorem dX12_ways_232 : decode cX12_ways 232 = .ok (.iload 9, 2) := by decide +kernel
theorem dX12_ways_234 : decode cX12_ways 234 = .ok (.bipush (-4), 2) := by decide +kernel
theorem dX12_ways_236 : decode cX12_ways 236 = .ok (.if_icmp .eq 20, 3) := by decide +kernel
theorem dX12_ways_239 : decode cX12_ways 239 = .ok (.aload_n 0, 1) := by decide +kernel
theorem dX12_ways_240 : decode cX12_ways 240 = .ok (.getfield 50, 3) := by decide +kernel
theorem dX12_ways_243 : decode cX12_ways 243 = .ok (.iload 9, 2) := by decide +kernel
theorem dX12_ways_245 : decode cX12_ways 245 = .ok (.dup2, 1) := by decide +kernel
theorem dX12_ways_246 : decode cX12_ways 246 = .ok (.laload, 1) := by decide +kernel
theorem dX12_ways_247 : decode cX12_ways 247 = .ok (.aload_n 0, 1) := by decide +kernel
theorem dX12_ways_248 : decode cX12_ways 248 = .ok (.getfield 47, 3) := by decide +kernel
theorem dX12_ways_251 : decode cX12_ways 251 = .ok (.iload 6, 2) := by decide +kernel
theorem dX12_ways_253 : decode cX12_ways 253 = .ok (.laload, 1) := by decide +kernel
theorem dX12_ways_254 : decode cX12_ways 254 = .ok (.ladd, 1) := by decide +kernel
theorem dX12_ways_255 : decode cX12_ways 255 = .ok (.lastore, 1) := by decide +kernel
theorem dX12_ways_256 : decode cX12_ways 256 = .ok (.iinc 8 1, 3) := by decide +kernel
theorem dX12_ways_259 : decode cX12_ways 259 = .ok (.goto (-46), 3) := by decide +kernel
theorem dX12_ways_262 : decode cX12_ways 262 = .ok (.iinc 6 1, 3) := by decide +kernel
theorem dX12_ways_265 : decode cX12_ways 265 = .ok (.goto (-117), 3) := by decide +kernel
theorem dX12_ways_268 : decode cX12_ways 268 = .ok (.iconst 0, 1) := by decide +kernel
theorem dX12_ways_269 : decode cX12_ways 269 = .ok (.istore 6, 2) := by decide +kernel
theorem dX12_ways_271 : decode cX12_ways 271 = .ok (.iload 6, 2) := by decide +kernel
theorem dX12_ways_273 : decode cX12_ways 273 = .ok (.sipush 4096, 3) := by decide +kernel
theorem dX12_ways_276 : decode cX12_ways 276 = .ok (.if_icmp .ge 23, 3) := by decide +kernel
theorem dX12_ways_279 : decode cX12_ways 279 = .ok (.aload_n 0, 1) := by decide +kernel
theorem dX12_ways_280 : decode cX12_ways 280 = .ok (.getfield 47, 3) := by decide +kernel
theorem dX12_ways_283 : decode cX12_ways 283 = .ok (.iload 6, 2) := by decide +kernel
theorem dX12_ways_285 : decode cX12_ways 285 = .ok (.aload_n 0, 1) := by decide +kernel
theorem dX12_ways_286 : decode cX12_ways 286 = .ok (.getfield 50, 3) := by decide +kernel
theorem dX12_ways_289 : decode cX12_ways 289 = .ok (.iload 6, 2) := by decide +kernel
theorem dX12_ways_291 : decode cX12_ways 291 = .ok (.laload, 1) := by decide +kernel
theorem dX12_ways_292 : decode cX12_ways 292 = .ok (.lastore, 1) := by decide +kernel
theorem dX12_ways_293 : decode cX12_ways 293 = .ok (.iinc 6 1, 3) := by decide +kernel
theorem dX12_ways_296 : decode cX12_ways 296 = .ok (.goto (-25), 3) := by decide +kernel
theorem dX12_ways_299 : decode cX12_ways 299 = .ok (.iinc 5 1, 3) := by decide +kernel
theorem dX12_ways_302 : decode cX12_ways 302 = .ok (.goto (-188), 3) := by decide +kernel
theorem dX12_ways_305 : decode cX12_ways 305 = .ok (.aload_n 0, 1) := by decide +kernel
theorem dX12_ways_306 : decode cX12_ways 306 = .ok (.getfield 47, 3) := by decide +kernel
theorem dX12_ways_309 : decode cX12_ways 309 = .ok (.iload_n 2, 1) := by decide +kernel
theorem dX12_ways_310 : decode cX12_ways 310 = .ok (.laload, 1) := by decide +kernel
theorem dX12_ways_311 : decode cX12_ways 311 = .ok (.lreturn, 1) := by decide +kernel
theorem dX12_wordAll_0 : decode cX12_wordAll 0 = .ok (.iconst 1, 1) := by decide +kernel
theorem dX12_wordAll_1 : decode cX12_wordAll 1 = .ok (.istore_n 1, 1) := by decide +kernel
theorem dX12_wordAll_2 : decode cX12_wordAll 2 = .ok (.iconst 0, 1) := by decide +kernel
theorem dX12_wordAll_3 : decode cX12_wordAll 3 = .ok (.istore_n 2, 1) := by decide +kernel
theorem dX12_wordAll_4 : decode cX12_wordAll 4 = .ok (.iload_n 2, 1) := by decide +kernel
theorem dX12_wordAll_5 : decode cX12_wordAll 5 = .ok (.aload_n 0, 1) := by decide +kernel
theorem dX12_wordAll_6 : decode cX12_wordAll 6 = .ok (.invokevirtual 139, 3) := by decide +kernel
theorem dX12_wordAll_9 : decode cX12_wordAll 9 = .ok (.if_icmp .ge 13, 3) := by decide +kernel
theorem dX12_wordAll_12 : decode cX12_wordAll 12 = .ok (.iload_n 1, 1) := by decide +kernel
theorem dX12_wordAll_13 : decode cX12_wordAll 13 = .ok (.iconst 3, 1) := by decide +kernel
theorem dX12_wordAll_14 : decode cX12_wordAll 14 = .ok (.imul, 1) := by decide +kernel
theorem dX12_wordAll_15 : decode cX12_wordAll 15 = .ok (.istore_n 1, 1) := by decide +kernel
theorem dX12_wordAll_16 : decode cX12_wordAll 16 = .ok (.iinc 2 1, 3) := by decide +kernel
theorem dX12_wordAll_19 : decode cX12_wordAll 19 = .ok (.goto (-15), 3) := by decide +kernel
theorem dX12_wordAll_22 : decode cX12_wordAll 22 = .ok (.iload_n 1, 1) := by decide +kernel
theorem dX12_wordAll_23 : decode cX12_wordAll 23 = .ok (.ireturn, 1) := by decide +kernel
theorem dX12_viewOf_0 : decode cX12_viewOf 0 = .ok (.aload_n 0, 1) := by decide +kernel
theorem dX12_viewOf_1 : decode cX12_viewOf 1 = .ok (.invokevirtual 139, 3) := by decide +kernel
theorem dX12_viewOf_4 : decode cX12_viewOf 4 = .ok (.istore_n 3, 1) := by decide +kernel
theorem dX12_viewOf_5 : decode cX12_viewOf 5 = .ok (.iload_n 2, 1) := by decide +kernel
theorem dX12_viewOf_6 : decode cX12_viewOf 6 = .ok (.istore 4, 2) := by decide +kernel
theorem dX12_viewOf_8 : decode cX12_viewOf 8 = .ok (.iconst 0, 1) := by decide +kernel
theorem dX12_viewOf_9 : decode cX12_viewOf 9 = .ok (.istore 5, 2) := by decide +kernel
theorem dX12_viewOf_11 : decode cX12_viewOf 11 = .ok (.iload 5, 2) := by decide +kernel
theorem dX12_viewOf_13 : decode cX12_viewOf 13 = .ok (.iload_n 3, 1) := by decide +kernel
theorem dX12_viewOf_14 : decode cX12_viewOf 14 = .ok (.if_icmp .ge 63, 3) := by decide +kernel
theorem dX12_viewOf_17 : decode cX12_viewOf 17 = .ok (.aload_n 0, 1) := by decide +kernel
theorem dX12_viewOf_18 : decode cX12_viewOf 18 = .ok (.iload_n 1, 1) := by decide +kernel
theorem dX12_viewOf_19 : decode cX12_viewOf 19 = .ok (.iload 5, 2) := by decide +kernel
theorem dX12_viewOf_21 : decode cX12_viewOf 21 = .ok (.invokevirtual 135, 3) := by decide +kernel
theorem dX12_viewOf_24 : decode cX12_viewOf 24 = .ok (.ifCond .eq 47, 3) := by decide +kernel
theorem dX12_viewOf_27 : decode cX12_viewOf 27 = .ok (.iload 5, 2) := by decide +kernel
theorem dX12_viewOf_29 : decode cX12_viewOf 29 = .ok (.istore 6, 2) := by decide +kernel
theorem dX12_viewOf_31 : decode cX12_viewOf 31 = .ok (.aload_n 0, 1) := by decide +kernel
theorem dX12_viewOf_32 : decode cX12_viewOf 32 = .ok (.iload 4, 2) := by decide +kernel
theorem dX12_viewOf_34 : decode cX12_viewOf 34 = .ok (.iload 6, 2) := by decide +kernel
theorem dX12_viewOf_36 : decode cX12_viewOf 36 = .ok (.invokevirtual 135, 3) := by decide +kernel
theorem dX12_viewOf_39 : decode cX12_viewOf 39 = .ok (.ifCond .ne 23, 3) := by decide +kernel
theorem dX12_viewOf_42 : decode cX12_viewOf 42 = .ok (.iload 6, 2) := by decide +kernel
theorem dX12_viewOf_44 : decode cX12_viewOf 44 = .ok (.ifCond .le 10, 3) := by decide +kernel
theorem dX12_viewOf_47 : decode cX12_viewOf 47 = .ok (.iload 6, 2) := by decide +kernel
theorem dX12_viewOf_49 : decode cX12_viewOf 49 = .ok (.iconst 1, 1) := by decide +kernel
theorem dX12_viewOf_50 : decode cX12_viewOf 50 = .ok (.isub, 1) := by decide +kernel
theorem dX12_viewOf_51 : decode cX12_viewOf 51 = .ok (.goto 6, 3) := by decide +kernel
theorem dX12_viewOf_54 : decode cX12_viewOf 54 = .ok (.iload_n 3, 1) := by decide +kernel
theorem dX12_viewOf_55 : decode cX12_viewOf 55 = .ok (.iconst 1, 1) := by decide +kernel
theorem dX12_viewOf_56 : decode cX12_viewOf 56 = .ok (.isub, 1) := by decide +kernel
theorem dX12_viewOf_57 : decode cX12_viewOf 57 = .ok (.istore 6, 2) := by decide +kernel
theorem dX12_viewOf_59 : decode cX12_viewOf 59 = .ok (.goto (-28), 3) := by decide +kernel
theorem dX12_viewOf_62 : decode cX12_viewOf 62 = .ok (.iload 4, 2) := by decide +kernel
theorem dX12_viewOf_64 : decode cX12_viewOf 64 = .ok (.iconst 1, 1) := by decide +kernel
theorem dX12_viewOf_65 : decode cX12_viewOf 65 = .ok (.iload 6, 2) := by decide +kernel
theorem dX12_viewOf_67 : decode cX12_viewOf 67 = .ok (.ishl, 1) := by decide +kernel
theorem dX12_viewOf_68 : decode cX12_viewOf 68 = .ok (.ixor, 1) := by decide +kernel
theorem dX12_viewOf_69 : decode cX12_viewOf 69 = .ok (.istore 4, 2) := by decide +kernel
theorem dX12_viewOf_71 : decode cX12_viewOf 71 = .ok (.iinc 5 1, 3) := by decide +kernel
theorem dX12_viewOf_74 : decode cX12_viewOf 74 = .ok (.goto (-63), 3) := by decide +kernel
theorem dX12_viewOf_77 : decode cX12_viewOf 77 = .ok (.iconst 0, 1) := by decide +kernel
theorem dX12_viewOf_78 : decode cX12_viewOf 78 = .ok (.istore 5, 2) := by decide +kernel
theorem dX12_viewOf_80 : decode cX12_viewOf 80 = .ok (.iload_n 3, 1) := by decide +kernel
theorem dX12_viewOf_81 : decode cX12_viewOf 81 = .ok (.iconst 1, 1) := by decide +kernel
theorem dX12_viewOf_82 : decode cX12_viewOf 82 = .ok (.isub, 1) := by decide +kernel
theorem dX12_viewOf_83 : decode cX12_viewOf 83 = .ok (.istore 6, 2) := by decide +kernel
theorem dX12_viewOf_85 : decode cX12_viewOf 85 = .ok (.iload 6, 2) := by decide +kernel
theorem dX12_viewOf_87 : decode cX12_viewOf 87 = .ok (.ifCond .lt 46, 3) := by decide +kernel
theorem dX12_viewOf_90 : decode cX12_viewOf 90 = .ok (.iconst 3, 1) := by decide +kernel
theorem dX12_viewOf_91 : decode cX12_viewOf 91 = .ok (.iload 5, 2) := by decide +kernel
theorem dX12_viewOf_93 : decode cX12_viewOf 93 = .ok (.imul, 1) := by decide +kernel
theorem dX12_viewOf_94 : decode cX12_viewOf 94 = .ok (.aload_n 0, 1) := by decide +kernel
theorem dX12_viewOf_95 : decode cX12_viewOf 95 = .ok (.iload_n 2, 1) := by decide +kernel
theorem dX12_viewOf_96 : decode cX12_viewOf 96 = .ok (.iload 6, 2) := by decide +kernel
theorem dX12_viewOf_98 : decode cX12_viewOf 98 = .ok (.invokevirtual 135, 3) := by decide +kernel
theorem dX12_viewOf_101 : decode cX12_viewOf 101 = .ok (.ifCond .ne 7, 3) := by decide +kernel
theorem dX12_viewOf_104 : decode cX12_viewOf 104 = .ok (.iconst 0, 1) := by decide +kernel
theorem dX12_viewOf_105 : decode cX12_viewOf 105 = .ok (.goto 19, 3) := by decide +kernel
theorem dX12_viewOf_108 : decode cX12_viewOf 108 = .ok (.aload_n 0, 1) := by decide +kernel
theorem dX12_viewOf_109 : decode cX12_viewOf 109 = .ok (.iload 4, 2) := by decide +kernel
theorem dX12_viewOf_111 : decode cX12_viewOf 111 = .ok (.iload 6, 2) := by decide +kernel
theorem dX12_viewOf_113 : decode cX12_viewOf 113 = .ok (.invokevirtual 135, 3) := by decide +kernel
theorem dX12_viewOf_116 : decode cX12_viewOf 116 = .ok (.ifCond .eq 7, 3) := by decide +kernel
theorem dX12_viewOf_119 : decode cX12_viewOf 119 = .ok (.iconst 2, 1) := by decide +kernel
theorem dX12_viewOf_120 : decode cX12_viewOf 120 = .ok (.goto 4, 3) := by decide +kernel
theorem dX12_viewOf_123 : decode cX12_viewOf 123 = .ok (.iconst 1, 1) := by decide +kernel
theorem dX12_viewOf_124 : decode cX12_viewOf 124 = .ok (.iadd, 1) := by decide +kernel
theorem dX12_viewOf_125 : decode cX12_viewOf 125 = .ok (.istore 5, 2) := by decide +kernel
theorem dX12_viewOf_127 : decode cX12_viewOf 127 = .ok (.iinc 6 (-1), 3) := by decide +kernel
theorem dX12_viewOf_130 : decode cX12_viewOf 130 = .ok (.goto (-45), 3) := by decide +kernel
theorem dX12_viewOf_133 : decode cX12_viewOf 133 = .ok (.iload 5, 2) := by decide +kernel
theorem dX12_viewOf_135 : decode cX12_viewOf 135 = .ok (.ireturn, 1) := by decide +kernel
theorem dX12_view_0 : decode cX12_view 0 = .ok (.aload_n 0, 1) := by decide +kernel
theorem dX12_view_1 : decode cX12_view 1 = .ok (.iload_n 1, 1) := by decide +kernel
theorem dX12_view_2 : decode cX12_view 2 = .ok (.invokevirtual 150, 3) := by decide +kernel
theorem dX12_view_5 : decode cX12_view 5 = .ok (.ifCond .eq 24, 3) := by decide +kernel
theorem dX12_view_8 : decode cX12_view 8 = .ok (.aload_n 0, 1) := by decide +kernel
theorem dX12_view_9 : decode cX12_view 9 = .ok (.iload_n 2, 1) := by decide +kernel
theorem dX12_view_10 : decode cX12_view 10 = .ok (.invokevirtual 150, 3) := by decide +kernel
theorem dX12_view_13 : decode cX12_view 13 = .ok (.ifCond .eq 16, 3) := by decide +kernel
theorem dX12_view_16 : decode cX12_view 16 = .ok (.iload_n 1, 1) := by decide +kernel
theorem dX12_view_17 : decode cX12_view 17 = .ok (.i2l, 1) := by decide +kernel
theorem dX12_view_18 : decode cX12_view 18 = .ok (.invokestatic 166, 3) := by decide +kernel
theorem dX12_view_21 : decode cX12_view 21 = .ok (.iload_n 2, 1) := by decide +kernel
theorem dX12_view_22 : decode cX12_view 22 = .ok (.i2l, 1) := by decide +kernel
theorem dX12_view_23 : decode cX12_view 23 = .ok (.invokestatic 166, 3) := by decide +kernel
theorem dX12_view_26 : decode cX12_view 26 = .ok (.if_icmp .le 5, 3) := by decide +kernel
theorem dX12_view_29 : decode cX12_view 29 = .ok (.iconst (-1), 1) := by decide +kernel
theorem dX12_view_30 : decode cX12_view 30 = .ok (.ireturn, 1) := by decide +kernel
theorem dX12_view_31 : decode cX12_view 31 = .ok (.aload_n 0, 1) := by decide +kernel
theorem dX12_view_32 : decode cX12_view 32 = .ok (.iload_n 1, 1) := by decide +kernel
theorem dX12_view_33 : decode cX12_view 33 = .ok (.iload_n 2, 1) := by decide +kernel
theorem dX12_view_34 : decode cX12_view 34 = .ok (.invokevirtual 267, 3) := by decide +kernel
theorem dX12_view_37 : decode cX12_view 37 = .ok (.ireturn, 1) := by decide +kernel
theorem dX12_layKinds_0 : decode cX12_layKinds 0 = .ok (.iload_n 1, 1) := by decide +kernel
theorem dX12_layKinds_1 : decode cX12_layKinds 1 = .ok (.istore_n 2, 1) := by decide +kernel
theorem dX12_layKinds_2 : decode cX12_layKinds 2 = .ok (.iconst 0, 1) := by decide +kernel
theorem dX12_layKinds_3 : decode cX12_layKinds 3 = .ok (.istore_n 3, 1) := by decide +kernel
theorem dX12_layKinds_4 : decode cX12_layKinds 4 = .ok (.iload_n 3, 1) := by decide +kernel
theorem dX12_layKinds_5 : decode cX12_layKinds 5 = .ok (.aload_n 0, 1) := by decide +kernel
theorem dX12_layKinds_6 : decode cX12_layKinds 6 = .ok (.invokevirtual 139, 3) := by decide +kernel
theorem dX12_layKinds_9 : decode cX12_layKinds 9 = .ok (.if_icmp .ge 22, 3) := by decide +kernel
theorem dX12_layKinds_12 : decode cX12_layKinds 12 = .ok (.aload_n 0, 1) := by decide +kernel
theorem dX12_layKinds_13 : decode cX12_layKinds 13 = .ok (.getfield 56, 3) := by decide +kernel
theorem dX12_layKinds_16 : decode cX12_layKinds 16 = .ok (.iload_n 3, 1) := by decide +kernel
theorem dX12_layKinds_17 : decode cX12_layKinds 17 = .ok (.iload_n 2, 1) := by decide +kernel
theorem dX12_layKinds_18 : decode cX12_layKinds 18 = .ok (.iconst 3, 1) := by decide +kernel
theorem dX12_layKinds_19 : decode cX12_layKinds 19 = .ok (.irem, 1) := by decide +kernel
theorem dX12_layKinds_20 : decode cX12_layKinds 20 = .ok (.iastore, 1) := by decide +kernel
theorem dX12_layKinds_21 : decode cX12_layKinds 21 = .ok (.iload_n 2, 1) := by decide +kernel
theorem dX12_layKinds_22 : decode cX12_layKinds 22 = .ok (.iconst 3, 1) := by decide +kernel
theorem dX12_layKinds_23 : decode cX12_layKinds 23 = .ok (.idiv, 1) := by decide +kernel
theorem dX12_layKinds_24 : decode cX12_layKinds 24 = .ok (.istore_n 2, 1) := by decide +kernel
theorem dX12_layKinds_25 : decode cX12_layKinds 25 = .ok (.iinc 3 1, 3) := by decide +kernel
theorem dX12_layKinds_28 : decode cX12_layKinds 28 = .ok (.goto (-24), 3) := by decide +kernel
theorem dX12_layKinds_31 : decode cX12_layKinds 31 = .ok (.return_, 1) := by decide +kernel
theorem dX12_manyOf_0 : decode cX12_manyOf 0 = .ok (.iconst 0, 1) := by decide +kernel
theorem dX12_manyOf_1 : decode cX12_manyOf 1 = .ok (.istore_n 2, 1) := by decide +kernel
theorem dX12_manyOf_2 : decode cX12_manyOf 2 = .ok (.iconst 0, 1) := by decide +kernel
theorem dX12_manyOf_3 : decode cX12_manyOf 3 = .ok (.istore_n 3, 1) := by decide +kernel
theorem dX12_manyOf_4 : decode cX12_manyOf 4 = .ok (.iload_n 3, 1) := by decide +kernel
theorem dX12_manyOf_5 : decode cX12_manyOf 5 = .ok (.aload_n 0, 1) := by decide +kernel
theorem dX12_manyOf_6 : decode cX12_manyOf 6 = .ok (.invokevirtual 139, 3) := by decide +kernel
theorem dX12_manyOf_9 : decode cX12_manyOf 9 = .ok (.if_icmp .ge 27, 3) := by decide +kernel
theorem dX12_manyOf_12 : decode cX12_manyOf 12 = .ok (.iload_n 2, 1) := by decide +kernel
theorem dX12_manyOf_13 : decode cX12_manyOf 13 = .ok (.aload_n 0, 1) := by decide +kernel
theorem dX12_manyOf_14 : decode cX12_manyOf 14 = .ok (.getfield 56, 3) := by decide +kernel
theorem dX12_manyOf_17 : decode cX12_manyOf 17 = .ok (.iload_n 3, 1) := by decide +kernel
theorem dX12_manyOf_18 : decode cX12_manyOf 18 = .ok (.iaload, 1) := by decide +kernel
theorem dX12_manyOf_19 : decode cX12_manyOf 19 = .ok (.iload_n 1, 1) := by decide +kernel
theorem dX12_manyOf_20 : decode cX12_manyOf 20 = .ok (.if_icmp .ne 7, 3) := by decide +kernel
theorem dX12_manyOf_23 : decode cX12_manyOf 23 = .ok (.iconst 1, 1) := by decide +kernel
theorem dX12_manyOf_24 : decode cX12_manyOf 24 = .ok (.goto 4, 3) := by decide +kernel
theorem dX12_manyOf_27 : decode cX12_manyOf 27 = .ok (.iconst 0, 1) := by decide +kernel
theorem dX12_manyOf_28 : decode cX12_manyOf 28 = .ok (.iadd, 1) := by decide +kernel
theorem dX12_manyOf_29 : decode cX12_manyOf 29 = .ok (.istore_n 2, 1) := by decide +kernel
theorem dX12_manyOf_30 : decode cX12_manyOf 30 = .ok (.iinc 3 1, 3) := by decide +kernel
theorem dX12_manyOf_33 : decode cX12_manyOf 33 = .ok (.goto (-29), 3) := by decide +kernel
theorem dX12_manyOf_36 : decode cX12_manyOf 36 = .ok (.iload_n 2, 1) := by decide +kernel
theorem dX12_manyOf_37 : decode cX12_manyOf 37 = .ok (.ireturn, 1) := by decide +kernel
theorem dX12_seenOf_0 : decode cX12_seenOf 0 = .ok (.aload_n 0, 1) := by decide +kernel
theorem dX12_seenOf_1 : decode cX12_seenOf 1 = .ok (.iload_n 1, 1) := by decide +kernel
theorem dX12_seenOf_2 : decode cX12_seenOf 2 = .ok (.invokevirtual 270, 3) := by decide +kernel
theorem dX12_seenOf_5 : decode cX12_seenOf 5 = .ok (.iconst 0, 1) := by decide +kernel
theorem dX12_seenOf_6 : decode cX12_seenOf 6 = .ok (.istore_n 2, 1) := by decide +kernel
theorem dX12_seenOf_7 : decode cX12_seenOf 7 = .ok (.iconst 0, 1) := by decide +kernel
theorem dX12_seenOf_8 : decode cX12_seenOf 8 = .ok (.istore_n 3, 1) := by decide +kernel
theorem dX12_seenOf_9 : decode cX12_seenOf 9 = .ok (.iload_n 3, 1) := by decide +kernel
theorem dX12_seenOf_10 : decode cX12_seenOf 10 = .ok (.aload_n 0, 1) := by decide +kernel
theorem dX12_seenOf_11 : decode cX12_seenOf 11 = .ok (.invokevirtual 139, 3) := by decide +kernel
theorem dX12_seenOf_14 : decode cX12_seenOf 14 = .ok (.if_icmp .ge 28, 3) := by decide +kernel
theorem dX12_seenOf_17 : decode cX12_seenOf 17 = .ok (.iload_n 2, 1) := by decide +kernel
theorem dX12_seenOf_18 : decode cX12_seenOf 18 = .ok (.aload_n 0, 1) := by decide +kernel
theorem dX12_seenOf_19 : decode cX12_seenOf 19 = .ok (.getfield 56, 3) := by decide +kernel
theorem dX12_seenOf_22 : decode cX12_seenOf 22 = .ok (.iload_n 3, 1) := by decide +kernel
theorem dX12_seenOf_23 : decode cX12_seenOf 23 = .ok (.iaload, 1) := by decide +kernel
theorem dX12_seenOf_24 : decode cX12_seenOf 24 = .ok (.ifCond .le 9, 3) := by decide +kernel
theorem dX12_seenOf_27 : decode cX12_seenOf 27 = .ok (.iconst 1, 1) := by decide +kernel
theorem dX12_seenOf_28 : decode cX12_seenOf 28 = .ok (.iload_n 3, 1) := by decide +kernel
theorem dX12_seenOf_29 : decode cX12_seenOf 29 = .ok (.ishl, 1) := by decide +kernel
theorem dX12_seenOf_30 : decode cX12_seenOf 30 = .ok (.goto 4, 3) := by decide +kernel
theorem dX12_seenOf_33 : decode cX12_seenOf 33 = .ok (.iconst 0, 1) := by decide +kernel
theorem dX12_seenOf_34 : decode cX12_seenOf 34 = .ok (.ior, 1) := by decide +kernel
theorem dX12_seenOf_35 : decode cX12_seenOf 35 = .ok (.istore_n 2, 1) := by decide +kernel
theorem dX12_seenOf_36 : decode cX12_seenOf 36 = .ok (.iinc 3 1, 3) := by decide +kernel
theorem dX12_seenOf_39 : decode cX12_seenOf 39 = .ok (.goto (-30), 3) := by decide +kernel
theorem dX12_seenOf_42 : decode cX12_seenOf 42 = .ok (.aload_n 0, 1) := by decide +kernel
theorem dX12_seenOf_43 : decode cX12_seenOf 43 = .ok (.iconst 1, 1) := by decide +kernel
theorem dX12_seenOf_44 : decode cX12_seenOf 44 = .ok (.invokevirtual 273, 3) := by decide +kernel
theorem dX12_seenOf_47 : decode cX12_seenOf 47 = .ok (.istore_n 3, 1) := by decide +kernel
theorem dX12_seenOf_48 : decode cX12_seenOf 48 = .ok (.iconst 0, 1) := by decide +kernel
theorem dX12_seenOf_49 : decode cX12_seenOf 49 = .ok (.istore 4, 2) := by decide +kernel
theorem dX12_seenOf_51 : decode cX12_seenOf 51 = .ok (.iconst 0, 1) := by decide +kernel
theorem dX12_seenOf_52 : decode cX12_seenOf 52 = .ok (.istore 5, 2) := by decide +kernel
theorem dX12_seenOf_54 : decode cX12_seenOf 54 = .ok (.iload 5, 2) := by decide +kernel
theorem dX12_seenOf_56 : decode cX12_seenOf 56 = .ok (.aload_n 0, 1) := by decide +kernel
theorem dX12_seenOf_57 : decode cX12_seenOf 57 = .ok (.invokevirtual 68, 3) := by decide +kernel
theorem dX12_seenOf_60 : decode cX12_seenOf 60 = .ok (.if_icmp .ge 40, 3) := by decide +kernel
theorem dX12_seenOf_63 : decode cX12_seenOf 63 = .ok (.iload 4, 2) := by decide +kernel
theorem dX12_seenOf_65 : decode cX12_seenOf 65 = .ok (.iload 5, 2) := by decide +kernel
theorem dX12_seenOf_67 : decode cX12_seenOf 67 = .ok (.i2l, 1) := by decide +kernel
theorem dX12_seenOf_68 : decode cX12_seenOf 68 = .ok (.invokestatic 166, 3) := by decide +kernel
theorem dX12_seenOf_71 : decode cX12_seenOf 71 = .ok (.iload_n 3, 1) := by decide +kernel
theorem dX12_seenOf_72 : decode cX12_seenOf 72 = .ok (.if_icmp .ne 18, 3) := by decide +kernel
theorem dX12_seenOf_75 : decode cX12_seenOf 75 = .ok (.aload_n 0, 1) := by decide +kernel
theorem dX12_seenOf_76 : decode cX12_seenOf 76 = .ok (.iload 5, 2) := by decide +kernel
theorem dX12_seenOf_78 : decode cX12_seenOf 78 = .ok (.iload_n 2, 1) := by decide +kernel
theorem dX12_seenOf_79 : decode cX12_seenOf 79 = .ok (.invokevirtual 267, 3) := by decide +kernel
theorem dX12_seenOf_82 : decode cX12_seenOf 82 = .ok (.iload_n 1, 1) := by decide +kernel
theorem dX12_seenOf_83 : decode cX12_seenOf 83 = .ok (.if_icmp .ne 7, 3) := by decide +kernel
theorem dX12_seenOf_86 : decode cX12_seenOf 86 = .ok (.iconst 1, 1) := by decide +kernel
theorem dX12_seenOf_87 : decode cX12_seenOf 87 = .ok (.goto 4, 3) := by decide +kernel
theorem dX12_seenOf_90 : decode cX12_seenOf 90 = .ok (.iconst 0, 1) := by decide +kernel
theorem dX12_seenOf_91 : decode cX12_seenOf 91 = .ok (.iadd, 1) := by decide +kernel
theorem dX12_seenOf_92 : decode cX12_seenOf 92 = .ok (.istore 4, 2) := by decide +kernel
theorem dX12_seenOf_94 : decode cX12_seenOf 94 = .ok (.iinc 5 1, 3) := by decide +kernel
theorem dX12_seenOf_97 : decode cX12_seenOf 97 = .ok (.goto (-43), 3) := by decide +kernel
theorem dX12_seenOf_100 : decode cX12_seenOf 100 = .ok (.iload 4, 2) := by decide +kernel
theorem dX12_seenOf_102 : decode cX12_seenOf 102 = .ok (.ireturn, 1) := by decide +kernel
theorem dX12_seen_0 : decode cX12_seen 0 = .ok (.iload_n 1, 1) := by decide +kernel
theorem dX12_seen_1 : decode cX12_seen 1 = .ok (.i2l, 1) := by decide +kernel
theorem dX12_seen_2 : decode cX12_seen 2 = .ok (.lconst 0, 1) := by decide +kernel
theorem dX12_seen_3 : decode cX12_seen 3 = .ok (.aload_n 0, 1) := by decide +kernel
theorem dX12_seen_4 : decode cX12_seen 4 = .ok (.invokevirtual 276, 3) := by decide +kernel
theorem dX12_seen_7 : decode cX12_seen 7 = .ok (.iconst 1, 1) := by decide +kernel
theorem dX12_seen_8 : decode cX12_seen 8 = .ok (.isub, 1) := by decide +kernel
theorem dX12_seen_9 : decode cX12_seen 9 = .ok (.i2l, 1) := by decide +kernel
theorem dX12_seen_10 : decode cX12_seen 10 = .ok (.invokestatic 72, 3) := by decide +kernel
theorem dX12_seen_13 : decode cX12_seen 13 = .ok (.ifCond .eq 11, 3) := by decide +kernel
theorem dX12_seen_16 : decode cX12_seen 16 = .ok (.aload_n 0, 1) := by decide +kernel
theorem dX12_seen_17 : decode cX12_seen 17 = .ok (.iload_n 1, 1) := by decide +kernel
theorem dX12_seen_18 : decode cX12_seen 18 = .ok (.invokevirtual 279, 3) := by decide +kernel
theorem dX12_seen_21 : decode cX12_seen 21 = .ok (.goto 4, 3) := by decide +kernel
theorem dX12_seen_24 : decode cX12_seen 24 = .ok (.iconst (-1), 1) := by decide +kernel
theorem dX12_seen_25 : decode cX12_seen 25 = .ok (.ireturn, 1) := by decide +kernel
theorem dX12_change_0 : decode cX12_change 0 = .ok (.iload_n 0, 1) := by decide +kernel
theorem dX12_change_1 : decode cX12_change 1 = .ok (.iconst 1, 1) := by decide +kernel
theorem dX12_change_2 : decode cX12_change 2 = .ok (.if_icmp .ne 8, 3) := by decide +kernel
theorem dX12_change_5 : decode cX12_change 5 = .ok (.iload_n 1, 1) := by decide +kernel
theorem dX12_change_6 : decode cX12_change 6 = .ok (.iconst 1, 1) := by decide +kernel
theorem dX12_change_7 : decode cX12_change 7 = .ok (.if_icmp .ne 12, 3) := by decide +kernel
theorem dX12_change_10 : decode cX12_change 10 = .ok (.iload_n 0, 1) := by decide +kernel
theorem dX12_change_11 : decode cX12_change 11 = .ok (.iconst 2, 1) := by decide +kernel
theorem dX12_change_12 : decode cX12_change 12 = .ok (.if_icmp .ne 11, 3) := by decide +kernel
theorem dX12_change_15 : decode cX12_change 15 = .ok (.iload_n 1, 1) := by decide +kernel
theorem dX12_change_16 : decode cX12_change 16 = .ok (.ifCond .ne 7, 3) := by decide +kernel
theorem dX12_change_19 : decode cX12_change 19 = .ok (.iconst 1, 1) := by decide +kernel
theorem dX12_change_20 : decode cX12_change 20 = .ok (.goto 4, 3) := by decide +kernel
theorem dX12_change_23 : decode cX12_change 23 = .ok (.iconst 0, 1) := by decide +kernel
theorem dX12_change_24 : decode cX12_change 24 = .ok (.ireturn, 1) := by decide +kernel
theorem dX12_behind_0 : decode cX12_behind 0 = .ok (.iload_n 1, 1) := by decide +kernel
theorem dX12_behind_1 : decode cX12_behind 1 = .ok (.iconst 1, 1) := by decide +kernel
theorem dX12_behind_2 : decode cX12_behind 2 = .ok (.iadd, 1) := by decide +kernel
theorem dX12_behind_3 : decode cX12_behind 3 = .ok (.aload_n 0, 1) := by decide +kernel
theorem dX12_behind_4 : decode cX12_behind 4 = .ok (.invokevirtual 139, 3) := by decide +kernel
theorem dX12_behind_7 : decode cX12_behind 7 = .ok (.if_icmp .ge 9, 3) := by decide +kernel
theorem dX12_behind_10 : decode cX12_behind 10 = .ok (.iload_n 1, 1) := by decide +kernel
theorem dX12_behind_11 : decode cX12_behind 11 = .ok (.iconst 1, 1) := by decide +kernel
theorem dX12_behind_12 : decode cX12_behind 12 = .ok (.iadd, 1) := by decide +kernel
theorem dX12_behind_13 : decode cX12_behind 13 = .ok (.goto 4, 3) := by decide +kernel
theorem dX12_behind_16 : decode cX12_behind 16 = .ok (.iconst 0, 1) := by decide +kernel
theorem dX12_behind_17 : decode cX12_behind 17 = .ok (.ireturn, 1) := by decide +kernel
theorem dX12_wordSeen_0 : decode cX12_wordSeen 0 = .ok (.iconst 0, 1) := by decide +kernel
theorem dX12_wordSeen_1 : decode cX12_wordSeen 1 = .ok (.istore_n 2, 1) := by decide +kernel
theorem dX12_wordSeen_2 : decode cX12_wordSeen 2 = .ok (.iconst 0, 1) := by decide +kernel
theorem dX12_wordSeen_3 : decode cX12_wordSeen 3 = .ok (.istore_n 3, 1) := by decide +kernel
theorem dX12_wordSeen_4 : decode cX12_wordSeen 4 = .ok (.iload_n 3, 1) := by decide +kernel
theorem dX12_wordSeen_5 : decode cX12_wordSeen 5 = .ok (.aload_n 0, 1) := by decide +kernel
theorem dX12_wordSeen_6 : decode cX12_wordSeen 6 = .ok (.invokevirtual 139, 3) := by decide +kernel
theorem dX12_wordSeen_9 : decode cX12_wordSeen 9 = .ok (.if_icmp .ge 110, 3) := by decide +kernel
theorem dX12_wordSeen_12 : decode cX12_wordSeen 12 = .ok (.aload_n 0, 1) := by decide +kernel
theorem dX12_wordSeen_13 : decode cX12_wordSeen 13 = .ok (.iload_n 1, 1) := by decide +kernel
theorem dX12_wordSeen_14 : decode cX12_wordSeen 14 = .ok (.invokevirtual 270, 3) := by decide +kernel
theorem dX12_wordSeen_17 : decode cX12_wordSeen 17 = .ok (.aload_n 0, 1) := by decide +kernel
theorem dX12_wordSeen_18 : decode cX12_wordSeen 18 = .ok (.iload_n 3, 1) := by decide +kernel
theorem dX12_wordSeen_19 : decode cX12_wordSeen 19 = .ok (.invokevirtual 282, 3) := by decide +kernel
theorem dX12_wordSeen_22 : decode cX12_wordSeen 22 = .ok (.istore 4, 2) := by decide +kernel
theorem dX12_wordSeen_24 : decode cX12_wordSeen 24 = .ok (.aload_n 0, 1) := by decide +kernel
theorem dX12_wordSeen_25 : decode cX12_wordSeen 25 = .ok (.getfield 56, 3) := by decide +kernel
theorem dX12_wordSeen_28 : decode cX12_wordSeen 28 = .ok (.iload 4, 2) := by decide +kernel
theorem dX12_wordSeen_30 : decode cX12_wordSeen 30 = .ok (.iaload, 1) := by decide +kernel
theorem dX12_wordSeen_31 : decode cX12_wordSeen 31 = .ok (.istore 5, 2) := by decide +kernel
theorem dX12_wordSeen_33 : decode cX12_wordSeen 33 = .ok (.aload_n 0, 1) := by decide +kernel
theorem dX12_wordSeen_34 : decode cX12_wordSeen 34 = .ok (.getfield 56, 3) := by decide +kernel
theorem dX12_wordSeen_37 : decode cX12_wordSeen 37 = .ok (.iload_n 3, 1) := by decide +kernel
theorem dX12_wordSeen_38 : decode cX12_wordSeen 38 = .ok (.iaload, 1) := by decide +kernel
theorem dX12_wordSeen_39 : decode cX12_wordSeen 39 = .ok (.istore 6, 2) := by decide +kernel
theorem dX12_wordSeen_41 : decode cX12_wordSeen 41 = .ok (.iload 5, 2) := by decide +kernel
theorem dX12_wordSeen_43 : decode cX12_wordSeen 43 = .ok (.iload 6, 2) := by decide +kernel
theorem dX12_wordSeen_45 : decode cX12_wordSeen 45 = .ok (.invokestatic 285, 3) := by decide +kernel
theorem dX12_wordSeen_48 : decode cX12_wordSeen 48 = .ok (.ifCond .eq 65, 3) := by decide +kernel
theorem dX12_wordSeen_51 : decode cX12_wordSeen 51 = .ok (.aload_n 0, 1) := by decide +kernel
theorem dX12_wordSeen_52 : decode cX12_wordSeen 52 = .ok (.getfield 56, 3) := by decide +kernel
theorem dX12_wordSeen_55 : decode cX12_wordSeen 55 = .ok (.iload_n 3, 1) := by decide +kernel
theorem dX12_wordSeen_56 : decode cX12_wordSeen 56 = .ok (.iload 5, 2) := by decide +kernel
theorem dX12_wordSeen_58 : decode cX12_wordSeen 58 = .ok (.iastore, 1) := by decide +kernel
theorem dX12_wordSeen_59 : decode cX12_wordSeen 59 = .ok (.aload_n 0, 1) := by decide +kernel
theorem dX12_wordSeen_60 : decode cX12_wordSeen 60 = .ok (.getfield 56, 3) := by decide +kernel
theorem dX12_wordSeen_63 : decode cX12_wordSeen 63 = .ok (.iload 4, 2) := by decide +kernel
theorem dX12_wordSeen_65 : decode cX12_wordSeen 65 = .ok (.iload 6, 2) := by decide +kernel
theorem dX12_wordSeen_67 : decode cX12_wordSeen 67 = .ok (.iastore, 1) := by decide +kernel
theorem dX12_wordSeen_68 : decode cX12_wordSeen 68 = .ok (.iconst 0, 1) := by decide +kernel
theorem dX12_wordSeen_69 : decode cX12_wordSeen 69 = .ok (.istore 7, 2) := by decide +kernel
theorem dX12_wordSeen_71 : decode cX12_wordSeen 71 = .ok (.aload_n 0, 1) := by decide +kernel
theorem dX12_wordSeen_72 : decode cX12_wordSeen 72 = .ok (.invokevirtual 139, 3) := by decide +kernel
theorem dX12_wordSeen_75 : decode cX12_wordSeen 75 = .ok (.iconst 1, 1) := by decide +kernel
theorem dX12_wordSeen_76 : decode cX12_wordSeen 76 = .ok (.isub, 1) := by decide +kernel
theorem dX12_wordSeen_77 : decode cX12_wordSeen 77 = .ok (.istore 8, 2) := by decide +kernel
theorem dX12_wordSeen_79 : decode cX12_wordSeen 79 = .ok (.iload 8, 2) := by decide +kernel
theorem dX12_wordSeen_81 : decode cX12_wordSeen 81 = .ok (.ifCond .lt 23, 3) := by decide +kernel
theorem dX12_wordSeen_84 : decode cX12_wordSeen 84 = .ok (.iconst 3, 1) := by decide +kernel
theorem dX12_wordSeen_85 : decode cX12_wordSeen 85 = .ok (.iload 7, 2) := by decide +kernel
theorem dX12_wordSeen_87 : decode cX12_wordSeen 87 = .ok (.imul, 1) := by decide +kernel
theorem dX12_wordSeen_88 : decode cX12_wordSeen 88 = .ok (.aload_n 0, 1) := by decide +kernel
theorem dX12_wordSeen_89 : decode cX12_wordSeen 89 = .ok (.getfield 56, 3) := by decide +kernel
theorem dX12_wordSeen_92 : decode cX12_wordSeen 92 = .ok (.iload 8, 2) := by decide +kernel
theorem dX12_wordSeen_94 : decode cX12_wordSeen 94 = .ok (.iaload, 1) := by decide +kernel
theorem dX12_wordSeen_95 : decode cX12_wordSeen 95 = .ok (.iadd, 1) := by decide +kernel
theorem dX12_wordSeen_96 : decode cX12_wordSeen 96 = .ok (.istore 7, 2) := by decide +kernel
theorem dX12_wordSeen_98 : decode cX12_wordSeen 98 = .ok (.iinc 8 (-1), 3) := by decide +kernel
theorem dX12_wordSeen_101 : decode cX12_wordSeen 101 = .ok (.goto (-22), 3) := by decide +kernel
theorem dX12_wordSeen_104 : decode cX12_wordSeen 104 = .ok (.iload_n 2, 1) := by decide +kernel
theorem dX12_wordSeen_105 : decode cX12_wordSeen 105 = .ok (.aload_n 0, 1) := by decide +kernel
theorem dX12_wordSeen_106 : decode cX12_wordSeen 106 = .ok (.iload 7, 2) := by decide +kernel
theorem dX12_wordSeen_108 : decode cX12_wordSeen 108 = .ok (.invokevirtual 279, 3) := by decide +kernel
theorem dX12_wordSeen_111 : decode cX12_wordSeen 111 = .ok (.iadd, 1) := by decide +kernel
theorem dX12_wordSeen_112 : decode cX12_wordSeen 112 = .ok (.istore_n 2, 1) := by decide +kernel
theorem dX12_wordSeen_113 : decode cX12_wordSeen 113 = .ok (.iinc 3 1, 3) := by decide +kernel
theorem dX12_wordSeen_116 : decode cX12_wordSeen 116 = .ok (.goto (-112), 3) := by decide +kernel
theorem dX12_wordSeen_119 : decode cX12_wordSeen 119 = .ok (.iload_n 2, 1) := by decide +kernel
theorem dX12_wordSeen_120 : decode cX12_wordSeen 120 = .ok (.ireturn, 1) := by decide +kernel
theorem dX12_word_0 : decode cX12_word 0 = .ok (.iload_n 1, 1) := by decide +kernel
theorem dX12_word_1 : decode cX12_word 1 = .ok (.i2l, 1) := by decide +kernel
theorem dX12_word_2 : decode cX12_word 2 = .ok (.lconst 0, 1) := by decide +kernel
theorem dX12_word_3 : decode cX12_word 3 = .ok (.aload_n 0, 1) := by decide +kernel
theorem dX12_word_4 : decode cX12_word 4 = .ok (.invokevirtual 276, 3) := by decide +kernel
theorem dX12_word_7 : decode cX12_word 7 = .ok (.iconst 1, 1) := by decide +kernel
theorem dX12_word_8 : decode cX12_word 8 = .ok (.isub, 1) := by decide +kernel
theorem dX12_word_9 : decode cX12_word 9 = .ok (.i2l, 1) := by decide +kernel
theorem dX12_word_10 : decode cX12_word 10 = .ok (.invokestatic 72, 3) := by decide +kernel
theorem dX12_word_13 : decode cX12_word 13 = .ok (.ifCond .eq 34, 3) := by decide +kernel
theorem dX12_word_16 : decode cX12_word 16 = .ok (.iload_n 2, 1) := by decide +kernel
theorem dX12_word_17 : decode cX12_word 17 = .ok (.i2l, 1) := by decide +kernel
theorem dX12_word_18 : decode cX12_word 18 = .ok (.lconst 0, 1) := by decide +kernel
theorem dX12_word_19 : decode cX12_word 19 = .ok (.ldc2_w 288, 3) := by decide +kernel
theorem dX12_word_22 : decode cX12_word 22 = .ok (.invokestatic 72, 3) := by decide +kernel
theorem dX12_word_25 : decode cX12_word 25 = .ok (.ifCond .ne 24, 3) := by decide +kernel
theorem dX12_word_28 : decode cX12_word 28 = .ok (.iload_n 2, 1) := by decide +kernel
theorem dX12_word_29 : decode cX12_word 29 = .ok (.i2l, 1) := by decide +kernel
theorem dX12_word_30 : decode cX12_word 30 = .ok (.ldc2_w 222, 3) := by decide +kernel
theorem dX12_word_33 : decode cX12_word 33 = .ok (.bipush 9, 2) := by decide +kernel
theorem dX12_word_35 : decode cX12_word 35 = .ok (.aload_n 0, 1) := by decide +kernel
theorem dX12_word_36 : decode cX12_word 36 = .ok (.invokevirtual 139, 3) := by decide +kernel
theorem dX12_word_39 : decode cX12_word 39 = .ok (.iadd, 1) := by decide +kernel
theorem dX12_word_40 : decode cX12_word 40 = .ok (.i2l, 1) := by decide +kernel
theorem dX12_word_41 : decode cX12_word 41 = .ok (.invokestatic 72, 3) := by decide +kernel
theorem dX12_word_44 : decode cX12_word 44 = .ok (.ifCond .ne 5, 3) := by decide +kernel
theorem dX12_word_47 : decode cX12_word 47 = .ok (.iconst (-1), 1) := by decide +kernel
theorem dX12_word_48 : decode cX12_word 48 = .ok (.ireturn, 1) := by decide +kernel
theorem dX12_word_49 : decode cX12_word 49 = .ok (.iload_n 2, 1) := by decide +kernel
theorem dX12_word_50 : decode cX12_word 50 = .ok (.iconst 1, 1) := by decide +kernel
theorem dX12_word_51 : decode cX12_word 51 = .ok (.if_icmp .ne 9, 3) := by decide +kernel
theorem dX12_word_54 : decode cX12_word 54 = .ok (.aload_n 0, 1) := by decide +kernel
theorem dX12_word_55 : decode cX12_word 55 = .ok (.iload_n 1, 1) := by decide +kernel
theorem dX12_word_56 : decode cX12_word 56 = .ok (.invokevirtual 290, 3) := by decide +kernel
theorem dX12_word_59 : decode cX12_word 59 = .ok (.ireturn, 1) := by decide +kernel
theorem dX12_word_60 : decode cX12_word 60 = .ok (.aload_n 0, 1) := by decide +kernel
theorem dX12_word_61 : decode cX12_word 61 = .ok (.iload_n 1, 1) := by decide +kernel
theorem dX12_word_62 : decode cX12_word 62 = .ok (.invokevirtual 270, 3) := by decide +kernel
theorem dX12_word_65 : decode cX12_word 65 = .ok (.iconst 0, 1) := by decide +kernel
theorem dX12_word_66 : decode cX12_word 66 = .ok (.istore_n 3, 1) := by decide +kernel
theorem dX12_word_67 : decode cX12_word 67 = .ok (.iconst 0, 1) := by decide +kernel
theorem dX12_word_68 : decode cX12_word 68 = .ok (.istore 4, 2) := by decide +kernel
theorem dX12_word_70 : decode cX12_word 70 = .ok (.iload 4, 2) := by decide +kernel
theorem dX12_word_72 : decode cX12_word 72 = .ok (.aload_n 0, 1) := by decide +kernel
theorem dX12_word_73 : decode cX12_word 73 = .ok (.invokevirtual 139, 3) := by decide +kernel
theorem dX12_word_76 : decode cX12_word 76 = .ok (.if_icmp .ge 41, 3) := by decide +kernel
theorem dX12_word_79 : decode cX12_word 79 = .ok (.iload_n 3, 1) := by decide +kernel
theorem dX12_word_80 : decode cX12_word 80 = .ok (.aload_n 0, 1) := by decide +kernel
theorem dX12_word_81 : decode cX12_word 81 = .ok (.getfield 56, 3) := by decide +kernel
theorem dX12_word_84 : decode cX12_word 84 = .ok (.iload 4, 2) := by decide +kernel
theorem dX12_word_86 : decode cX12_word 86 = .ok (.iaload, 1) := by decide +kernel
theorem dX12_word_87 : decode cX12_word 87 = .ok (.aload_n 0, 1) := by decide +kernel
theorem dX12_word_88 : decode cX12_word 88 = .ok (.getfield 56, 3) := by decide +kernel
theorem dX12_word_91 : decode cX12_word 91 = .ok (.aload_n 0, 1) := by decide +kernel
theorem dX12_word_92 : decode cX12_word 92 = .ok (.iload 4, 2) := by decide +kernel
theorem dX12_word_94 : decode cX12_word 94 = .ok (.invokevirtual 282, 3) := by decide +kernel
theorem dX12_word_97 : decode cX12_word 97 = .ok (.iaload, 1) := by decide +kernel
theorem dX12_word_98 : decode cX12_word 98 = .ok (.invokestatic 285, 3) := by decide +kernel
theorem dX12_word_101 : decode cX12_word 101 = .ok (.ifCond .eq 7, 3) := by decide +kernel
theorem dX12_word_104 : decode cX12_word 104 = .ok (.iconst 1, 1) := by decide +kernel
theorem dX12_word_105 : decode cX12_word 105 = .ok (.goto 4, 3) := by decide +kernel
theorem dX12_word_108 : decode cX12_word 108 = .ok (.iconst 0, 1) := by decide +kernel
theorem dX12_word_109 : decode cX12_word 109 = .ok (.iadd, 1) := by decide +kernel
theorem dX12_word_110 : decode cX12_word 110 = .ok (.istore_n 3, 1) := by decide +kernel
theorem dX12_word_111 : decode cX12_word 111 = .ok (.iinc 4 1, 3) := by decide +kernel
theorem dX12_word_114 : decode cX12_word 114 = .ok (.goto (-44), 3) := by decide +kernel
theorem dX12_word_117 : decode cX12_word 117 = .ok (.iload_n 2, 1) := by decide +kernel
theorem dX12_word_118 : decode cX12_word 118 = .ok (.ifCond .ne 7, 3) := by decide +kernel
theorem dX12_word_121 : decode cX12_word 121 = .ok (.iload_n 3, 1) := by decide +kernel
theorem dX12_word_122 : decode cX12_word 122 = .ok (.goto 38, 3) := by decide +kernel
theorem dX12_word_125 : decode cX12_word 125 = .ok (.iload_n 2, 1) := by decide +kernel
theorem dX12_word_126 : decode cX12_word 126 = .ok (.iconst 2, 1) := by decide +kernel
theorem dX12_word_127 : decode cX12_word 127 = .ok (.if_icmp .ne 11, 3) := by decide +kernel
theorem dX12_word_130 : decode cX12_word 130 = .ok (.aload_n 0, 1) := by decide +kernel
theorem dX12_word_131 : decode cX12_word 131 = .ok (.iconst 1, 1) := by decide +kernel
theorem dX12_word_132 : decode cX12_word 132 = .ok (.invokevirtual 273, 3) := by decide +kernel
theorem dX12_word_135 : decode cX12_word 135 = .ok (.goto 25, 3) := by decide +kernel
theorem dX12_word_138 : decode cX12_word 138 = .ok (.iload_n 2, 1) := by decide +kernel
theorem dX12_word_139 : decode cX12_word 139 = .ok (.iconst 3, 1) := by decide +kernel
theorem dX12_word_140 : decode cX12_word 140 = .ok (.if_icmp .ne 11, 3) := by decide +kernel
theorem dX12_word_143 : decode cX12_word 143 = .ok (.aload_n 0, 1) := by decide +kernel
theorem dX12_word_144 : decode cX12_word 144 = .ok (.iconst 2, 1) := by decide +kernel
theorem dX12_word_145 : decode cX12_word 145 = .ok (.invokevirtual 273, 3) := by decide +kernel
theorem dX12_word_148 : decode cX12_word 148 = .ok (.goto 12, 3) := by decide +kernel
theorem dX12_word_151 : decode cX12_word 151 = .ok (.aload_n 0, 1) := by decide +kernel
theorem dX12_word_152 : decode cX12_word 152 = .ok (.getfield 56, 3) := by decide +kernel
theorem dX12_word_155 : decode cX12_word 155 = .ok (.iload_n 2, 1) := by decide +kernel
theorem dX12_word_156 : decode cX12_word 156 = .ok (.bipush 10, 2) := by decide +kernel
theorem dX12_word_158 : decode cX12_word 158 = .ok (.isub, 1) := by decide +kernel
theorem dX12_word_159 : decode cX12_word 159 = .ok (.iaload, 1) := by decide +kernel
theorem dX12_word_160 : decode cX12_word 160 = .ok (.ireturn, 1) := by decide +kernel
theorem dX12_sheet_0 : decode cX12_sheet 0 = .ok (.iload_n 1, 1) := by decide +kernel
theorem dX12_sheet_1 : decode cX12_sheet 1 = .ok (.i2l, 1) := by decide +kernel
theorem dX12_sheet_2 : decode cX12_sheet 2 = .ok (.lconst 0, 1) := by decide +kernel
theorem dX12_sheet_3 : decode cX12_sheet 3 = .ok (.ldc2_w 288, 3) := by decide +kernel
theorem dX12_sheet_6 : decode cX12_sheet 6 = .ok (.invokestatic 72, 3) := by decide +kernel
theorem dX12_sheet_9 : decode cX12_sheet 9 = .ok (.ifCond .eq 21, 3) := by decide +kernel
theorem dX12_sheet_12 : decode cX12_sheet 12 = .ok (.iload_n 2, 1) := by decide +kernel
theorem dX12_sheet_13 : decode cX12_sheet 13 = .ok (.i2l, 1) := by decide +kernel
theorem dX12_sheet_14 : decode cX12_sheet 14 = .ok (.lconst 0, 1) := by decide +kernel
theorem dX12_sheet_15 : decode cX12_sheet 15 = .ok (.ldc2_w 176, 3) := by decide +kernel
theorem dX12_sheet_18 : decode cX12_sheet 18 = .ok (.invokestatic 72, 3) := by decide +kernel
theorem dX12_sheet_21 : decode cX12_sheet 21 = .ok (.ifCond .eq 9, 3) := by decide +kernel
theorem dX12_sheet_24 : decode cX12_sheet 24 = .ok (.iload_n 3, 1) := by decide +kernel
theorem dX12_sheet_25 : decode cX12_sheet 25 = .ok (.bipush 64, 2) := by decide +kernel
theorem dX12_sheet_27 : decode cX12_sheet 27 = .ok (.if_icmp .le 5, 3) := by decide +kernel
theorem dX12_sheet_30 : decode cX12_sheet 30 = .ok (.iconst (-1), 1) := by decide +kernel
theorem dX12_sheet_31 : decode cX12_sheet 31 = .ok (.ireturn, 1) := by decide +kernel
theorem dX12_sheet_32 : decode cX12_sheet 32 = .ok (.iload_n 3, 1) := by decide +kernel
theorem dX12_sheet_33 : decode cX12_sheet 33 = .ok (.ifCond .ge 6, 3) := by decide +kernel
theorem dX12_sheet_36 : decode cX12_sheet 36 = .ok (.bipush (-14), 2) := by decide +kernel
theorem dX12_sheet_38 : decode cX12_sheet 38 = .ok (.ireturn, 1) := by decide +kernel
theorem dX12_sheet_39 : decode cX12_sheet 39 = .ok (.aload_n 0, 1) := by decide +kernel
theorem dX12_sheet_40 : decode cX12_sheet 40 = .ok (.getfield 59, 3) := by decide +kernel
theorem dX12_sheet_43 : decode cX12_sheet 43 = .ok (.iload_n 1, 1) := by decide +kernel
theorem dX12_sheet_44 : decode cX12_sheet 44 = .ok (.iload_n 2, 1) := by decide +kernel
theorem dX12_sheet_45 : decode cX12_sheet 45 = .ok (.iastore, 1) := by decide +kernel
theorem dX12_sheet_46 : decode cX12_sheet 46 = .ok (.aload_n 0, 1) := by decide +kernel
theorem dX12_sheet_47 : decode cX12_sheet 47 = .ok (.getfield 62, 3) := by decide +kernel
theorem dX12_sheet_50 : decode cX12_sheet 50 = .ok (.iload_n 1, 1) := by decide +kernel
theorem dX12_sheet_51 : decode cX12_sheet 51 = .ok (.iload_n 3, 1) := by decide +kernel
theorem dX12_sheet_52 : decode cX12_sheet 52 = .ok (.iastore, 1) := by decide +kernel
theorem dX12_sheet_53 : decode cX12_sheet 53 = .ok (.iconst 0, 1) := by decide +kernel
theorem dX12_sheet_54 : decode cX12_sheet 54 = .ok (.istore 4, 2) := by decide +kernel
theorem dX12_sheet_56 : decode cX12_sheet 56 = .ok (.iload 4, 2) := by decide +kernel
theorem dX12_sheet_58 : decode cX12_sheet 58 = .ok (.bipush 64, 2) := by decide +kernel
theorem dX12_sheet_60 : decode cX12_sheet 60 = .ok (.if_icmp .ge 22, 3) := by decide +kernel
theorem dX12_sheet_63 : decode cX12_sheet 63 = .ok (.aload_n 0, 1) := by decide +kernel
theorem dX12_sheet_64 : decode cX12_sheet 64 = .ok (.getfield 65, 3) := by decide +kernel
theorem dX12_sheet_67 : decode cX12_sheet 67 = .ok (.bipush 64, 2) := by decide +kernel
theorem dX12_sheet_69 : decode cX12_sheet 69 = .ok (.iload_n 1, 1) := by decide +kernel
theorem dX12_sheet_70 : decode cX12_sheet 70 = .ok (.imul, 1) := by decide +kernel
theorem dX12_sheet_71 : decode cX12_sheet 71 = .ok (.iload 4, 2) := by decide +kernel
theorem dX12_sheet_73 : decode cX12_sheet 73 = .ok (.iadd, 1) := by decide +kernel
theorem dX12_sheet_74 : decode cX12_sheet 74 = .ok (.iconst 0, 1) := by decide +kernel
theorem dX12_sheet_75 : decode cX12_sheet 75 = .ok (.iastore, 1) := by decide +kernel
theorem dX12_sheet_76 : decode cX12_sheet 76 = .ok (.iinc 4 1, 3) := by decide +kernel
theorem dX12_sheet_79 : decode cX12_sheet 79 = .ok (.goto (-23), 3) := by decide +kernel
theorem dX12_sheet_82 : decode cX12_sheet 82 = .ok (.iconst 1, 1) := by decide +kernel
theorem dX12_sheet_83 : decode cX12_sheet 83 = .ok (.ireturn, 1) := by decide +kernel
theorem dX12_lay_0 : decode cX12_lay 0 = .ok (.iload_n 1, 1) := by decide +kernel
theorem dX12_lay_1 : decode cX12_lay 1 = .ok (.i2l, 1) := by decide +kernel
theorem dX12_lay_2 : decode cX12_lay 2 = .ok (.lconst 0, 1) := by decide +kernel
theorem dX12_lay_3 : decode cX12_lay 3 = .ok (.ldc2_w 288, 3) := by decide +kernel
theorem dX12_lay_6 : decode cX12_lay 6 = .ok (.invokestatic 72, 3) := by decide +kernel
theorem dX12_lay_9 : decode cX12_lay 9 = .ok (.ifCond .ne 5, 3) := by decide +kernel
theorem dX12_lay_12 : decode cX12_lay 12 = .ok (.iconst (-1), 1) := by decide +kernel
theorem dX12_lay_13 : decode cX12_lay 13 = .ok (.ireturn, 1) := by decide +kernel
theorem dX12_lay_14 : decode cX12_lay 14 = .ok (.aload_n 0, 1) := by decide +kernel
theorem dX12_lay_15 : decode cX12_lay 15 = .ok (.getfield 59, 3) := by decide +kernel
theorem dX12_lay_18 : decode cX12_lay 18 = .ok (.iload_n 1, 1) := by decide +kernel
theorem dX12_lay_19 : decode cX12_lay 19 = .ok (.iaload, 1) := by decide +kernel
theorem dX12_lay_20 : decode cX12_lay 20 = .ok (.bipush (-4), 2) := by decide +kernel
theorem dX12_lay_22 : decode cX12_lay 22 = .ok (.if_icmp .ne 6, 3) := by decide +kernel
theorem dX12_lay_25 : decode cX12_lay 25 = .ok (.bipush (-11), 2) := by decide +kernel
theorem dX12_lay_27 : decode cX12_lay 27 = .ok (.ireturn, 1) := by decide +kernel
theorem dX12_lay_28 : decode cX12_lay 28 = .ok (.iload_n 2, 1) := by decide +kernel
theorem dX12_lay_29 : decode cX12_lay 29 = .ok (.i2l, 1) := by decide +kernel
theorem dX12_lay_30 : decode cX12_lay 30 = .ok (.lconst 0, 1) := by decide +kernel
theorem dX12_lay_31 : decode cX12_lay 31 = .ok (.aload_n 0, 1) := by decide +kernel
theorem dX12_lay_32 : decode cX12_lay 32 = .ok (.getfield 62, 3) := by decide +kernel
theorem dX12_lay_35 : decode cX12_lay 35 = .ok (.iload_n 1, 1) := by decide +kernel
theorem dX12_lay_36 : decode cX12_lay 36 = .ok (.iaload, 1) := by decide +kernel
theorem dX12_lay_37 : decode cX12_lay 37 = .ok (.iconst 1, 1) := by decide +kernel
theorem dX12_lay_38 : decode cX12_lay 38 = .ok (.isub, 1) := by decide +kernel
theorem dX12_lay_39 : decode cX12_lay 39 = .ok (.i2l, 1) := by decide +kernel
theorem dX12_lay_40 : decode cX12_lay 40 = .ok (.invokestatic 72, 3) := by decide +kernel
theorem dX12_lay_43 : decode cX12_lay 43 = .ok (.ifCond .ne 6, 3) := by decide +kernel
theorem dX12_lay_46 : decode cX12_lay 46 = .ok (.bipush (-12), 2) := by decide +kernel
theorem dX12_lay_48 : decode cX12_lay 48 = .ok (.ireturn, 1) := by decide +kernel
theorem dX12_lay_49 : decode cX12_lay 49 = .ok (.aload_n 0, 1) := by decide +kernel
theorem dX12_lay_50 : decode cX12_lay 50 = .ok (.getfield 65, 3) := by decide +kernel
theorem dX12_lay_53 : decode cX12_lay 53 = .ok (.bipush 64, 2) := by decide +kernel
theorem dX12_lay_55 : decode cX12_lay 55 = .ok (.iload_n 1, 1) := by decide +kernel
theorem dX12_lay_56 : decode cX12_lay 56 = .ok (.imul, 1) := by decide +kernel
theorem dX12_lay_57 : decode cX12_lay 57 = .ok (.iload_n 2, 1) := by decide +kernel
theorem dX12_lay_58 : decode cX12_lay 58 = .ok (.iadd, 1) := by decide +kernel
theorem dX12_lay_59 : decode cX12_lay 59 = .ok (.aload_n 0, 1) := by decide +kernel
theorem dX12_lay_60 : decode cX12_lay 60 = .ok (.getfield 59, 3) := by decide +kernel
theorem dX12_lay_63 : decode cX12_lay 63 = .ok (.iload_n 1, 1) := by decide +kernel
theorem dX12_lay_64 : decode cX12_lay 64 = .ok (.iaload, 1) := by decide +kernel
theorem dX12_lay_65 : decode cX12_lay 65 = .ok (.ifCond .ne 13, 3) := by decide +kernel
theorem dX12_lay_68 : decode cX12_lay 68 = .ok (.iload_n 3, 1) := by decide +kernel
theorem dX12_lay_69 : decode cX12_lay 69 = .ok (.bipush 24, 2) := by decide +kernel
theorem dX12_lay_71 : decode cX12_lay 71 = .ok (.ishl, 1) := by decide +kernel
theorem dX12_lay_72 : decode cX12_lay 72 = .ok (.bipush 24, 2) := by decide +kernel
theorem dX12_lay_74 : decode cX12_lay 74 = .ok (.ishr, 1) := by decide +kernel
theorem dX12_lay_75 : decode cX12_lay 75 = .ok (.goto 24, 3) := by decide +kernel
theorem dX12_lay_78 : decode cX12_lay 78 = .ok (.aload_n 0, 1) := by decide +kernel
theorem dX12_lay_79 : decode cX12_lay 79 = .ok (.getfield 59, 3) := by decide +kernel
theorem dX12_lay_82 : decode cX12_lay 82 = .ok (.iload_n 1, 1) := by decide +kernel
theorem dX12_lay_83 : decode cX12_lay 83 = .ok (.iaload, 1) := by decide +kernel
theorem dX12_lay_84 : decode cX12_lay 84 = .ok (.iconst 1, 1) := by decide +kernel
theorem dX12_lay_85 : decode cX12_lay 85 = .ok (.if_icmp .ne 13, 3) := by decide +kernel
theorem dX12_lay_88 : decode cX12_lay 88 = .ok (.iload_n 3, 1) := by decide +kernel
theorem dX12_lay_89 : decode cX12_lay 89 = .ok (.bipush 16, 2) := by decide +kernel
theorem dX12_lay_91 : decode cX12_lay 91 = .ok (.ishl, 1) := by decide +kernel
theorem dX12_lay_92 : decode cX12_lay 92 = .ok (.bipush 16, 2) := by decide +kernel
theorem dX12_lay_94 : decode cX12_lay 94 = .ok (.ishr, 1) := by decide +kernel
theorem dX12_lay_95 : decode cX12_lay 95 = .ok (.goto 4, 3) := by decide +kernel
theorem dX12_lay_98 : decode cX12_lay 98 = .ok (.iload_n 3, 1) := by decide +kernel
theorem dX12_lay_99 : decode cX12_lay 99 = .ok (.iastore, 1) := by decide +kernel
theorem dX12_lay_100 : decode cX12_lay 100 = .ok (.iconst 1, 1) := by decide +kernel
theorem dX12_lay_101 : decode cX12_lay 101 = .ok (.ireturn, 1) := by decide +kernel
theorem dX12_judge_0 : decode cX12_judge 0 = .ok (.aload_n 0, 1) := by decide +kernel
theorem dX12_judge_1 : decode cX12_judge 1 = .ok (.iload_n 1, 1) := by decide +kernel
theorem dX12_judge_2 : decode cX12_judge 2 = .ok (.invokevirtual 150, 3) := by decide +kernel
theorem dX12_judge_5 : decode cX12_judge 5 = .ok (.ifCond .eq 27, 3) := by decide +kernel
theorem dX12_judge_8 : decode cX12_judge 8 = .ok (.iload_n 2, 1) := by decide +kernel
theorem dX12_judge_9 : decode cX12_judge 9 = .ok (.i2l, 1) := by decide +kernel
theorem dX12_judge_10 : decode cX12_judge 10 = .ok (.lconst 0, 1) := by decide +kernel
theorem dX12_judge_11 : decode cX12_judge 11 = .ok (.ldc2_w 288, 3) := by decide +kernel
theorem dX12_judge_14 : decode cX12_judge 14 = .ok (.invokestatic 72, 3) := by decide +kernel
theorem dX12_judge_17 : decode cX12_judge 17 = .ok (.ifCond .eq 15, 3) := by decide +kernel
theorem dX12_judge_20 : decode cX12_judge 20 = .ok (.iload_n 3, 1) := by decide +kernel
theorem dX12_judge_21 : decode cX12_judge 21 = .ok (.i2l, 1) := by decide +kernel
theorem dX12_judge_22 : decode cX12_judge 22 = .ok (.lconst 0, 1) := by decide +kernel
theorem dX12_judge_23 : decode cX12_judge 23 = .ok (.ldc2_w 176, 3) := by decide +kernel
theorem dX12_judge_26 : decode cX12_judge 26 = .ok (.invokestatic 72, 3) := by decide +kernel
theorem dX12_judge_29 : decode cX12_judge 29 = .ok (.ifCond .ne 5, 3) := by decide +kernel
theorem dX12_judge_32 : decode cX12_judge 32 = .ok (.iconst (-1), 1) := by decide +kernel
theorem dX12_judge_33 : decode cX12_judge 33 = .ok (.ireturn, 1) := by decide +kernel
theorem dX12_judge_34 : decode cX12_judge 34 = .ok (.aload_n 0, 1) := by decide +kernel
theorem dX12_judge_35 : decode cX12_judge 35 = .ok (.invokevirtual 163, 3) := by decide +kernel
theorem dX12_judge_38 : decode cX12_judge 38 = .ok (.aload_n 0, 1) := by decide +kernel
theorem dX12_judge_39 : decode cX12_judge 39 = .ok (.iload_n 1, 1) := by decide +kernel
theorem dX12_judge_40 : decode cX12_judge 40 = .ok (.invokevirtual 170, 3) := by decide +kernel
theorem dX12_judge_43 : decode cX12_judge 43 = .ok (.ifCond .ne 6, 3) := by decide +kernel
theorem dX12_judge_46 : decode cX12_judge 46 = .ok (.bipush (-4), 2) := by decide +kernel
theorem dX12_judge_48 : decode cX12_judge 48 = .ok (.ireturn, 1) := by decide +kernel
theorem dX12_judge_49 : decode cX12_judge 49 = .ok (.aload_n 0, 1) := by decide +kernel
theorem dX12_judge_50 : decode cX12_judge 50 = .ok (.getfield 59, 3) := by decide +kernel
theorem dX12_judge_53 : decode cX12_judge 53 = .ok (.iload_n 2, 1) := by decide +kernel
theorem dX12_judge_54 : decode cX12_judge 54 = .ok (.iaload, 1) := by decide +kernel
theorem dX12_judge_55 : decode cX12_judge 55 = .ok (.iload_n 3, 1) := by decide +kernel
theorem dX12_judge_56 : decode cX12_judge 56 = .ok (.if_icmp .eq 22, 3) := by decide +kernel
theorem dX12_judge_59 : decode cX12_judge 59 = .ok (.aload_n 0, 1) := by decide +kernel
theorem dX12_judge_60 : decode cX12_judge 60 = .ok (.getfield 59, 3) := by decide +kernel
theorem dX12_judge_63 : decode cX12_judge 63 = .ok (.iload_n 2, 1) := by decide +kernel
theorem dX12_judge_64 : decode cX12_judge 64 = .ok (.iaload, 1) := by decide +kernel
theorem dX12_judge_65 : decode cX12_judge 65 = .ok (.bipush (-4), 2) := by decide +kernel
theorem dX12_judge_67 : decode cX12_judge 67 = .ok (.if_icmp .ne 8, 3) := by decide +kernel
theorem dX12_judge_70 : decode cX12_judge 70 = .ok (.bipush (-11), 2) := by decide +kernel
theorem dX12_judge_72 : decode cX12_judge 72 = .ok (.goto 5, 3) := by decide +kernel
theorem dX12_judge_75 : decode cX12_judge 75 = .ok (.bipush (-13), 2) := by decide +kernel
theorem dX12_judge_77 : decode cX12_judge 77 = .ok (.ireturn, 1) := by decide +kernel
theorem dX12_judge_78 : decode cX12_judge 78 = .ok (.aload_n 0, 1) := by decide +kernel
theorem dX12_judge_79 : decode cX12_judge 79 = .ok (.iload_n 1, 1) := by decide +kernel
theorem dX12_judge_80 : decode cX12_judge 80 = .ok (.invokevirtual 181, 3) := by decide +kernel
theorem dX12_judge_83 : decode cX12_judge 83 = .ok (.lconst 0, 1) := by decide +kernel
theorem dX12_judge_84 : decode cX12_judge 84 = .ok (.lstore 5, 2) := by decide +kernel
theorem dX12_judge_86 : decode cX12_judge 86 = .ok (.iconst 0, 1) := by decide +kernel
theorem dX12_judge_87 : decode cX12_judge 87 = .ok (.istore 7, 2) := by decide +kernel
theorem dX12_judge_89 : decode cX12_judge 89 = .ok (.iload 7, 2) := by decide +kernel
theorem dX12_judge_91 : decode cX12_judge 91 = .ok (.aload_n 0, 1) := by decide +kernel
theorem dX12_judge_92 : decode cX12_judge 92 = .ok (.getfield 178, 3) := by decide +kernel
theorem dX12_judge_95 : decode cX12_judge 95 = .ok (.if_icmp .ge 88, 3) := by decide +kernel
theorem dX12_judge_98 : decode cX12_judge 98 = .ok (.iload 4, 2) := by decide +kernel
theorem dX12_judge_100 : decode cX12_judge 100 = .ok (.i2l, 1) := by decide +kernel
theorem dX12_judge_101 : decode cX12_judge 101 = .ok (.iload 7, 2) := by decide +kernel
theorem dX12_judge_103 : decode cX12_judge 103 = .ok (.i2l, 1) := by decide +kernel
theorem dX12_judge_104 : decode cX12_judge 104 = .ok (.ladd, 1) := by decide +kernel
theorem dX12_judge_105 : decode cX12_judge 105 = .ok (.lconst 0, 1) := by decide +kernel
theorem dX12_judge_106 : decode cX12_judge 106 = .ok (.aload_n 0, 1) := by decide +kernel
theorem dX12_judge_107 : decode cX12_judge 107 = .ok (.getfield 62, 3) := by decide +kernel
theorem dX12_judge_110 : decode cX12_judge 110 = .ok (.iload_n 2, 1) := by decide +kernel
theorem dX12_judge_111 : decode cX12_judge 111 = .ok (.iaload, 1) := by decide +kernel
theorem dX12_judge_112 : decode cX12_judge 112 = .ok (.iconst 1, 1) := by decide +kernel
theorem dX12_judge_113 : decode cX12_judge 113 = .ok (.isub, 1) := by decide +kernel
theorem dX12_judge_114 : decode cX12_judge 114 = .ok (.i2l, 1) := by decide +kernel
theorem dX12_judge_115 : decode cX12_judge 115 = .ok (.invokestatic 72, 3) := by decide +kernel
theorem dX12_judge_118 : decode cX12_judge 118 = .ok (.ifCond .ne 6, 3) := by decide +kernel
theorem dX12_judge_121 : decode cX12_judge 121 = .ok (.bipush (-12), 2) := by decide +kernel
theorem dX12_judge_123 : decode cX12_judge 123 = .ok (.ireturn, 1) := by decide +kernel
theorem dX12_judge_124 : decode cX12_judge 124 = .ok (.aload_n 0, 1) := by decide +kernel
theorem dX12_judge_125 : decode cX12_judge 125 = .ok (.getfield 32, 3) := by decide +kernel
theorem dX12_judge_128 : decode cX12_judge 128 = .ok (.iload 7, 2) := by decide +kernel
theorem dX12_judge_130 : decode cX12_judge 130 = .ok (.aload_n 0, 1) := by decide +kernel
theorem dX12_judge_131 : decode cX12_judge 131 = .ok (.getfield 65, 3) := by decide +kernel
theorem dX12_judge_134 : decode cX12_judge 134 = .ok (.bipush 64, 2) := by decide +kernel
theorem dX12_judge_136 : decode cX12_judge 136 = .ok (.iload_n 2, 1) := by decide +kernel
theorem dX12_judge_137 : decode cX12_judge 137 = .ok (.imul, 1) := by decide +kernel
theorem dX12_judge_138 : decode cX12_judge 138 = .ok (.iload 4, 2) := by decide +kernel
theorem dX12_judge_140 : decode cX12_judge 140 = .ok (.iadd, 1) := by decide +kernel
theorem dX12_judge_141 : decode cX12_judge 141 = .ok (.iload 7, 2) := by decide +kernel
theorem dX12_judge_143 : decode cX12_judge 143 = .ok (.iadd, 1) := by decide +kernel
theorem dX12_judge_144 : decode cX12_judge 144 = .ok (.iaload, 1) := by decide +kernel
theorem dX12_judge_145 : decode cX12_judge 145 = .ok (.i2l, 1) := by decide +kernel
theorem dX12_judge_146 : decode cX12_judge 146 = .ok (.lastore, 1) := by decide +kernel
theorem dX12_judge_147 : decode cX12_judge 147 = .ok (.aload_n 0, 1) := by decide +kernel
theorem dX12_judge_148 : decode cX12_judge 148 = .ok (.getfield 32, 3) := by decide +kernel
theorem dX12_judge_151 : decode cX12_judge 151 = .ok (.iload 7, 2) := by decide +kernel
theorem dX12_judge_153 : decode cX12_judge 153 = .ok (.laload, 1) := by decide +kernel
theorem dX12_judge_154 : decode cX12_judge 154 = .ok (.lconst 0, 1) := by decide +kernel
theorem dX12_judge_155 : decode cX12_judge 155 = .ok (.lcmp, 1) := by decide +kernel
theorem dX12_judge_156 : decode cX12_judge 156 = .ok (.ifCond .ge 9, 3) := by decide +kernel
theorem dX12_judge_159 : decode cX12_judge 159 = .ok (.bipush (-20), 2) := by decide +kernel
theorem dX12_judge_161 : decode cX12_judge 161 = .ok (.iload 7, 2) := by decide +kernel
theorem dX12_judge_163 : decode cX12_judge 163 = .ok (.isub, 1) := by decide +kernel
theorem dX12_judge_164 : decode cX12_judge 164 = .ok (.ireturn, 1) := by decide +kernel
theorem dX12_judge_165 : decode cX12_judge 165 = .ok (.lload 5, 2) := by decide +kernel
theorem dX12_judge_167 : decode cX12_judge 167 = .ok (.aload_n 0, 1) := by decide +kernel
theorem dX12_judge_168 : decode cX12_judge 168 = .ok (.getfield 32, 3) := by decide +kernel
theorem dX12_judge_171 : decode cX12_judge 171 = .ok (.iload 7, 2) := by decide +kernel
theorem dX12_judge_173 : decode cX12_judge 173 = .ok (.laload, 1) := by decide +kernel
theorem dX12_judge_174 : decode cX12_judge 174 = .ok (.ladd, 1) := by decide +kernel
theorem dX12_judge_175 : decode cX12_judge 175 = .ok (.lstore 5, 2) := by decide +kernel
theorem dX12_judge_177 : decode cX12_judge 177 = .ok (.iinc 7 1, 3) := by decide +kernel
theorem dX12_judge_180 : decode cX12_judge 180 = .ok (.goto (-91), 3) := by decide +kernel
theorem dX12_judge_183 : decode cX12_judge 183 = .ok (.lload 5, 2) := by decide +kernel
theorem dX12_judge_185 : decode cX12_judge 185 = .ok (.lconst 0, 1) := by decide +kernel
theorem dX12_judge_186 : decode cX12_judge 186 = .ok (.lcmp, 1) := by decide +kernel
theorem dX12_judge_187 : decode cX12_judge 187 = .ok (.ifCond .le 7, 3) := by decide +kernel
theorem dX12_judge_190 : decode cX12_judge 190 = .ok (.iconst 1, 1) := by decide +kernel
theorem dX12_judge_191 : decode cX12_judge 191 = .ok (.goto 4, 3) := by decide +kernel
theorem dX12_judge_194 : decode cX12_judge 194 = .ok (.iconst 0, 1) := by decide +kernel
theorem dX12_judge_195 : decode cX12_judge 195 = .ok (.istore 7, 2) := by decide +kernel
theorem dX12_judge_197 : decode cX12_judge 197 = .ok (.iconst 0, 1) := by decide +kernel
theorem dX12_judge_198 : decode cX12_judge 198 = .ok (.istore 8, 2) := by decide +kernel
theorem dX12_judge_200 : decode cX12_judge 200 = .ok (.iload 8, 2) := by decide +kernel
theorem dX12_judge_202 : decode cX12_judge 202 = .ok (.aload_n 0, 1) := by decide +kernel
theorem dX12_judge_203 : decode cX12_judge 203 = .ok (.getfield 178, 3) := by decide +kernel
theorem dX12_judge_206 : decode cX12_judge 206 = .ok (.if_icmp .ge 109, 3) := by decide +kernel
theorem dX12_judge_209 : decode cX12_judge 209 = .ok (.lconst 0, 1) := by decide +kernel
theorem dX12_judge_210 : decode cX12_judge 210 = .ok (.lstore 9, 2) := by decide +kernel
theorem dX12_judge_212 : decode cX12_judge 212 = .ok (.iconst 0, 1) := by decide +kernel
theorem dX12_judge_213 : decode cX12_judge 213 = .ok (.istore 11, 2) := by decide +kernel
theorem dX12_judge_215 : decode cX12_judge 215 = .ok (.iload 11, 2) := by decide +kernel
theorem dX12_judge_217 : decode cX12_judge 217 = .ok (.aload_n 0, 1) := by decide +kernel
theorem dX12_judge_218 : decode cX12_judge 218 = .ok (.getfield 178, 3) := by decide +kernel
theorem dX12_judge_221 : decode cX12_judge 221 = .ok (.if_icmp .ge 69, 3) := by decide +kernel
theorem dX12_judge_224 : decode cX12_judge 224 = .ok (.lload 9, 2) := by decide +kernel
theorem dX12_judge_226 : decode cX12_judge 226 = .ok (.aload_n 0, 1) := by decide +kernel
theorem dX12_judge_227 : decode cX12_judge 227 = .ok (.getfield 32, 3) := by decide +kernel
theorem dX12_judge_230 : decode cX12_judge 230 = .ok (.iload 11, 2) := by decide +kernel
theorem dX12_judge_232 : decode cX12_judge 232 = .ok (.laload, 1) := by decide +kernel
theorem dX12_judge_233 : decode cX12_judge 233 = .ok (.aload_n 0, 1) := by decide +kernel
theorem dX12_judge_234 : decode cX12_judge 234 = .ok (.aload_n 0, 1) := by decide +kernel
theorem dX12_judge_235 : decode cX12_judge 235 = .ok (.getfield 29, 3) := by decide +kernel
theorem dX12_judge_238 : decode cX12_judge 238 = .ok (.iload 11, 2) := by decide +kernel
theorem dX12_judge_240 : decode cX12_judge 240 = .ok (.iaload, 1) := by decide +kernel
theorem dX12_judge_241 : decode cX12_judge 241 = .ok (.aload_n 0, 1) := by decide +kernel
theorem dX12_judge_242 : decode cX12_judge 242 = .ok (.getfield 29, 3) := by decide +kernel
theorem dX12_judge_245 : decode cX12_judge 245 = .ok (.iload 8, 2) := by decide +kernel
theorem dX12_judge_247 : decode cX12_judge 247 = .ok (.iaload, 1) := by decide +kernel
theorem dX12_judge_248 : decode cX12_judge 248 = .ok (.invokevirtual 154, 3) := by decide +kernel
theorem dX12_judge_251 : decode cX12_judge 251 = .ok (.i2l, 1) := by decide +kernel
theorem dX12_judge_252 : decode cX12_judge 252 = .ok (.lmul, 1) := by decide +kernel
theorem dX12_judge_253 : decode cX12_judge 253 = .ok (.aload_n 0, 1) := by decide +kernel
theorem dX12_judge_254 : decode cX12_judge 254 = .ok (.getfield 32, 3) := by decide +kernel
theorem dX12_judge_257 : decode cX12_judge 257 = .ok (.iload 8, 2) := by decide +kernel
theorem dX12_judge_259 : decode cX12_judge 259 = .ok (.laload, 1) := by decide +kernel
theorem dX12_judge_260 : decode cX12_judge 260 = .ok (.aload_n 0, 1) := by decide +kernel
theorem dX12_judge_261 : decode cX12_judge 261 = .ok (.aload_n 0, 1) := by decide +kernel
theorem dX12_judge_262 : decode cX12_judge 262 = .ok (.getfield 29, 3) := by decide +kernel
theorem dX12_judge_265 : decode cX12_judge 265 = .ok (.iload 8, 2) := by decide +kernel
theorem dX12_judge_267 : decode cX12_judge 267 = .ok (.iaload, 1) := by decide +kernel
theorem dX12_judge_268 : decode cX12_judge 268 = .ok (.aload_n 0, 1) := by decide +kernel
theorem dX12_judge_269 : decode cX12_judge 269 = .ok (.getfield 29, 3) := by decide +kernel
theorem dX12_judge_272 : decode cX12_judge 272 = .ok (.iload 11, 2) := by decide +kernel
theorem dX12_judge_274 : decode cX12_judge 274 = .ok (.iaload, 1) := by decide +kernel
theorem dX12_judge_275 : decode cX12_judge 275 = .ok (.invokevirtual 154, 3) := by decide +kernel
theorem dX12_judge_278 : decode cX12_judge 278 = .ok (.i2l, 1) := by decide +kernel
theorem dX12_judge_279 : decode cX12_judge 279 = .ok (.lmul, 1) := by decide +kernel
theorem dX12_judge_280 : decode cX12_judge 280 = .ok (.lsub, 1) := by decide +kernel
theorem dX12_judge_281 : decode cX12_judge 281 = .ok (.ladd, 1) := by decide +kernel
theorem dX12_judge_282 : decode cX12_judge 282 = .ok (.lstore 9, 2) := by decide +kernel
theorem dX12_judge_284 : decode cX12_judge 284 = .ok (.iinc 11 1, 3) := by decide +kernel
theorem dX12_judge_287 : decode cX12_judge 287 = .ok (.goto (-72), 3) := by decide +kernel
theorem dX12_judge_290 : decode cX12_judge 290 = .ok (.iload 7, 2) := by decide +kernel
theorem dX12_judge_292 : decode cX12_judge 292 = .ok (.ifCond .eq 14, 3) := by decide +kernel
theorem dX12_judge_295 : decode cX12_judge 295 = .ok (.lload 9, 2) := by decide +kernel
theorem dX12_judge_297 : decode cX12_judge 297 = .ok (.lconst 0, 1) := by decide +kernel
theorem dX12_judge_298 : decode cX12_judge 298 = .ok (.lcmp, 1) := by decide +kernel
theorem dX12_judge_299 : decode cX12_judge 299 = .ok (.ifCond .ne 7, 3) := by decide +kernel
theorem dX12_judge_302 : decode cX12_judge 302 = .ok (.iconst 1, 1) := by decide +kernel
theorem dX12_judge_303 : decode cX12_judge 303 = .ok (.goto 4, 3) := by decide +kernel
theorem dX12_judge_306 : decode cX12_judge 306 = .ok (.iconst 0, 1) := by decide +kernel
theorem dX12_judge_307 : decode cX12_judge 307 = .ok (.istore 7, 2) := by decide +kernel
theorem dX12_judge_309 : decode cX12_judge 309 = .ok (.iinc 8 1, 3) := by decide +kernel
theorem dX12_judge_312 : decode cX12_judge 312 = .ok (.goto (-112), 3) := by decide +kernel
theorem dX12_judge_315 : decode cX12_judge 315 = .ok (.iload 7, 2) := by decide +kernel
theorem dX12_judge_317 : decode cX12_judge 317 = .ok (.ifCond .eq 7, 3) := by decide +kernel
theorem dX12_judge_320 : decode cX12_judge 320 = .ok (.iconst 1, 1) := by decide +kernel
theorem dX12_judge_321 : decode cX12_judge 321 = .ok (.goto 4, 3) := by decide +kernel
theorem dX12_judge_324 : decode cX12_judge 324 = .ok (.iconst 0, 1) := by decide +kernel
theorem dX12_judge_325 : decode cX12_judge 325 = .ok (.ireturn, 1) := by decide +kernel
theorem dX12_count_0 : decode cX12_count 0 = .ok (.iload_n 1, 1) := by decide +kernel
theorem dX12_count_1 : decode cX12_count 1 = .ok (.ifCond .ne 10, 3) := by decide +kernel
theorem dX12_count_4 : decode cX12_count 4 = .ok (.aload_n 0, 1) := by decide +kernel
theorem dX12_count_5 : decode cX12_count 5 = .ok (.invokevirtual 68, 3) := by decide +kernel
theorem dX12_count_8 : decode cX12_count 8 = .ok (.goto 46, 3) := by decide +kernel
theorem dX12_count_11 : decode cX12_count 11 = .ok (.iload_n 1, 1) := by decide +kernel
theorem dX12_count_12 : decode cX12_count 12 = .ok (.iconst 1, 1) := by decide +kernel
theorem dX12_count_13 : decode cX12_count 13 = .ok (.if_icmp .ne 10, 3) := by decide +kernel
theorem dX12_count_16 : decode cX12_count 16 = .ok (.aload_n 0, 1) := by decide +kernel
theorem dX12_count_17 : decode cX12_count 17 = .ok (.getfield 76, 3) := by decide +kernel
theorem dX12_count_20 : decode cX12_count 20 = .ok (.goto 34, 3) := by decide +kernel
theorem dX12_count_23 : decode cX12_count 23 = .ok (.iload_n 1, 1) := by decide +kernel
theorem dX12_count_24 : decode cX12_count 24 = .ok (.iconst 2, 1) := by decide +kernel
theorem dX12_count_25 : decode cX12_count 25 = .ok (.if_icmp .ne 28, 3) := by decide +kernel
theorem dX12_count_28 : decode cX12_count 28 = .ok (.aload_n 0, 1) := by decide +kernel
theorem dX12_count_29 : decode cX12_count 29 = .ok (.getfield 59, 3) := by decide +kernel
theorem dX12_count_32 : decode cX12_count 32 = .ok (.iconst 0, 1) := by decide +kernel
theorem dX12_count_33 : decode cX12_count 33 = .ok (.iaload, 1) := by decide +kernel
theorem dX12_count_34 : decode cX12_count 34 = .ok (.bipush (-4), 2) := by decide +kernel
theorem dX12_count_36 : decode cX12_count 36 = .ok (.if_icmp .ne 8, 3) := by decide +kernel
theorem dX12_count_39 : decode cX12_count 39 = .ok (.bipush (-4), 2) := by decide +kernel
theorem dX12_count_41 : decode cX12_count 41 = .ok (.goto 13, 3) := by decide +kernel
theorem dX12_count_44 : decode cX12_count 44 = .ok (.aload_n 0, 1) := by decide +kernel
theorem dX12_count_45 : decode cX12_count 45 = .ok (.getfield 62, 3) := by decide +kernel
theorem dX12_count_48 : decode cX12_count 48 = .ok (.iconst 0, 1) := by decide +kernel
theorem dX12_count_49 : decode cX12_count 49 = .ok (.iaload, 1) := by decide +kernel
theorem dX12_count_50 : decode cX12_count 50 = .ok (.goto 4, 3) := by decide +kernel
theorem dX12_count_53 : decode cX12_count 53 = .ok (.iconst (-1), 1) := by decide +kernel
theorem dX12_count_54 : decode cX12_count 54 = .ok (.ireturn, 1) := by decide +kernel
theorem dJ6_numberOfTrailingZeros_0f7a4_0 : decode cJ6_numberOfTrailingZeros_0f7a4 0 = .ok (.iload_n 0, 1) := by decide +kernel
theorem dJ6_numberOfTrailingZeros_0f7a4_1 : decode cJ6_numberOfTrailingZeros_0f7a4 1 = .ok (.iconst (-1), 1) := by decide +kernel
theorem dJ6_numberOfTrailingZeros_0f7a4_2 : decode cJ6_numberOfTrailingZeros_0f7a4 2 = .ok (.ixor, 1) := by decide +kernel
theorem dJ6_numberOfTrailingZeros_0f7a4_3 : decode cJ6_numberOfTrailingZeros_0f7a4 3 = .ok (.iload_n 0, 1) := by decide +kernel
theorem dJ6_numberOfTrailingZeros_0f7a4_4 : decode cJ6_numberOfTrailingZeros_0f7a4 4 = .ok (.iconst 1, 1) := by decide +kernel
theorem dJ6_numberOfTrailingZeros_0f7a4_5 : decode cJ6_numberOfTrailingZeros_0f7a4 5 = .ok (.isub, 1) := by decide +kernel
theorem dJ6_numberOfTrailingZeros_0f7a4_6 : decode cJ6_numberOfTrailingZeros_0f7a4 6 = .ok (.iand, 1) := by decide +kernel
theorem dJ6_numberOfTrailingZeros_0f7a4_7 : decode cJ6_numberOfTrailingZeros_0f7a4 7 = .ok (.istore_n 0, 1) := by decide +kernel
theorem dJ6_numberOfTrailingZeros_0f7a4_8 : decode cJ6_numberOfTrailingZeros_0f7a4 8 = .ok (.iload_n 0, 1) := by decide +kernel
theorem dJ6_numberOfTrailingZeros_0f7a4_9 : decode cJ6_numberOfTrailingZeros_0f7a4 9 = .ok (.ifCond .gt 8, 3) := by decide +kernel
theorem dJ6_numberOfTrailingZeros_0f7a4_12 : decode cJ6_numberOfTrailingZeros_0f7a4 12 = .ok (.iload_n 0, 1) := by decide +kernel
theorem dJ6_numberOfTrailingZeros_0f7a4_13 : decode cJ6_numberOfTrailingZeros_0f7a4 13 = .ok (.bipush 32, 2) := by decide +kernel
theorem dJ6_numberOfTrailingZeros_0f7a4_15 : decode cJ6_numberOfTrailingZeros_0f7a4 15 = .ok (.iand, 1) := by decide +kernel
theorem dJ6_numberOfTrailingZeros_0f7a4_16 : decode cJ6_numberOfTrailingZeros_0f7a4 16 = .ok (.ireturn, 1) := by decide +kernel
theorem dJ6_numberOfTrailingZeros_0f7a4_17 : decode cJ6_numberOfTrailingZeros_0f7a4 17 = .ok (.iconst 1, 1) := by decide +kernel
theorem dJ6_numberOfTrailingZeros_0f7a4_18 : decode cJ6_numberOfTrailingZeros_0f7a4 18 = .ok (.istore_n 1, 1) := by decide +kernel
theorem dJ6_numberOfTrailingZeros_0f7a4_19 : decode cJ6_numberOfTrailingZeros_0f7a4 19 = .ok (.iload_n 0, 1) := by decide +kernel
theorem dJ6_numberOfTrailingZeros_0f7a4_20 : decode cJ6_numberOfTrailingZeros_0f7a4 20 = .ok (.ldc_w 264, 3) := by decide +kernel
theorem dJ6_numberOfTrailingZeros_0f7a4_23 : decode cJ6_numberOfTrailingZeros_0f7a4 23 = .ok (.if_icmp .le 11, 3) := by decide +kernel
theorem dJ6_numberOfTrailingZeros_0f7a4_26 : decode cJ6_numberOfTrailingZeros_0f7a4 26 = .ok (.iinc 1 16, 3) := by decide +kernel
theorem dJ6_numberOfTrailingZeros_0f7a4_29 : decode cJ6_numberOfTrailingZeros_0f7a4 29 = .ok (.iload_n 0, 1) := by decide +kernel
theorem dJ6_numberOfTrailingZeros_0f7a4_30 : decode cJ6_numberOfTrailingZeros_0f7a4 30 = .ok (.bipush 16, 2) := by decide +kernel
theorem dJ6_numberOfTrailingZeros_0f7a4_32 : decode cJ6_numberOfTrailingZeros_0f7a4 32 = .ok (.iushr, 1) := by decide +kernel
theorem dJ6_numberOfTrailingZeros_0f7a4_33 : decode cJ6_numberOfTrailingZeros_0f7a4 33 = .ok (.istore_n 0, 1) := by decide +kernel
theorem dJ6_numberOfTrailingZeros_0f7a4_34 : decode cJ6_numberOfTrailingZeros_0f7a4 34 = .ok (.iload_n 0, 1) := by decide +kernel
theorem dJ6_numberOfTrailingZeros_0f7a4_35 : decode cJ6_numberOfTrailingZeros_0f7a4 35 = .ok (.sipush 256, 3) := by decide +kernel
theorem dJ6_numberOfTrailingZeros_0f7a4_38 : decode cJ6_numberOfTrailingZeros_0f7a4 38 = .ok (.if_icmp .le 11, 3) := by decide +kernel
theorem dJ6_numberOfTrailingZeros_0f7a4_41 : decode cJ6_numberOfTrailingZeros_0f7a4 41 = .ok (.iinc 1 8, 3) := by decide +kernel
theorem dJ6_numberOfTrailingZeros_0f7a4_44 : decode cJ6_numberOfTrailingZeros_0f7a4 44 = .ok (.iload_n 0, 1) := by decide +kernel
theorem dJ6_numberOfTrailingZeros_0f7a4_45 : decode cJ6_numberOfTrailingZeros_0f7a4 45 = .ok (.bipush 8, 2) := by decide +kernel
theorem dJ6_numberOfTrailingZeros_0f7a4_47 : decode cJ6_numberOfTrailingZeros_0f7a4 47 = .ok (.iushr, 1) := by decide +kernel
theorem dJ6_numberOfTrailingZeros_0f7a4_48 : decode cJ6_numberOfTrailingZeros_0f7a4 48 = .ok (.istore_n 0, 1) := by decide +kernel
theorem dJ6_numberOfTrailingZeros_0f7a4_49 : decode cJ6_numberOfTrailingZeros_0f7a4 49 = .ok (.iload_n 0, 1) := by decide +kernel
theorem dJ6_numberOfTrailingZeros_0f7a4_50 : decode cJ6_numberOfTrailingZeros_0f7a4 50 = .ok (.bipush 16, 2) := by decide +kernel
theorem dJ6_numberOfTrailingZeros_0f7a4_52 : decode cJ6_numberOfTrailingZeros_0f7a4 52 = .ok (.if_icmp .le 10, 3) := by decide +kernel
theorem dJ6_numberOfTrailingZeros_0f7a4_55 : decode cJ6_numberOfTrailingZeros_0f7a4 55 = .ok (.iinc 1 4, 3) := by decide +kernel
theorem dJ6_numberOfTrailingZeros_0f7a4_58 : decode cJ6_numberOfTrailingZeros_0f7a4 58 = .ok (.iload_n 0, 1) := by decide +kernel
theorem dJ6_numberOfTrailingZeros_0f7a4_59 : decode cJ6_numberOfTrailingZeros_0f7a4 59 = .ok (.iconst 4, 1) := by decide +kernel
theorem dJ6_numberOfTrailingZeros_0f7a4_60 : decode cJ6_numberOfTrailingZeros_0f7a4 60 = .ok (.iushr, 1) := by decide +kernel
theorem dJ6_numberOfTrailingZeros_0f7a4_61 : decode cJ6_numberOfTrailingZeros_0f7a4 61 = .ok (.istore_n 0, 1) := by decide +kernel
theorem dJ6_numberOfTrailingZeros_0f7a4_62 : decode cJ6_numberOfTrailingZeros_0f7a4 62 = .ok (.iload_n 0, 1) := by decide +kernel
theorem dJ6_numberOfTrailingZeros_0f7a4_63 : decode cJ6_numberOfTrailingZeros_0f7a4 63 = .ok (.iconst 4, 1) := by decide +kernel
theorem dJ6_numberOfTrailingZeros_0f7a4_64 : decode cJ6_numberOfTrailingZeros_0f7a4 64 = .ok (.if_icmp .le 10, 3) := by decide +kernel
theorem dJ6_numberOfTrailingZeros_0f7a4_67 : decode cJ6_numberOfTrailingZeros_0f7a4 67 = .ok (.iinc 1 2, 3) := by decide +kernel
theorem dJ6_numberOfTrailingZeros_0f7a4_70 : decode cJ6_numberOfTrailingZeros_0f7a4 70 = .ok (.iload_n 0, 1) := by decide +kernel
theorem dJ6_numberOfTrailingZeros_0f7a4_71 : decode cJ6_numberOfTrailingZeros_0f7a4 71 = .ok (.iconst 2, 1) := by decide +kernel
theorem dJ6_numberOfTrailingZeros_0f7a4_72 : decode cJ6_numberOfTrailingZeros_0f7a4 72 = .ok (.iushr, 1) := by decide +kernel
theorem dJ6_numberOfTrailingZeros_0f7a4_73 : decode cJ6_numberOfTrailingZeros_0f7a4 73 = .ok (.istore_n 0, 1) := by decide +kernel
theorem dJ6_numberOfTrailingZeros_0f7a4_74 : decode cJ6_numberOfTrailingZeros_0f7a4 74 = .ok (.iload_n 1, 1) := by decide +kernel
theorem dJ6_numberOfTrailingZeros_0f7a4_75 : decode cJ6_numberOfTrailingZeros_0f7a4 75 = .ok (.iload_n 0, 1) := by decide +kernel
theorem dJ6_numberOfTrailingZeros_0f7a4_76 : decode cJ6_numberOfTrailingZeros_0f7a4 76 = .ok (.iconst 1, 1) := by decide +kernel
theorem dJ6_numberOfTrailingZeros_0f7a4_77 : decode cJ6_numberOfTrailingZeros_0f7a4 77 = .ok (.iushr, 1) := by decide +kernel
theorem dJ6_numberOfTrailingZeros_0f7a4_78 : decode cJ6_numberOfTrailingZeros_0f7a4 78 = .ok (.iadd, 1) := by decide +kernel
theorem dJ6_numberOfTrailingZeros_0f7a4_79 : decode cJ6_numberOfTrailingZeros_0f7a4 79 = .ok (.ireturn, 1) := by decide +kernel
theorem dJ6_bitCount_0f7a4_0 : decode cJ6_bitCount_0f7a4 0 = .ok (.iload_n 0, 1) := by decide +kernel
theorem dJ6_bitCount_0f7a4_1 : decode cJ6_bitCount_0f7a4 1 = .ok (.iload_n 0, 1) := by decide +kernel
theorem dJ6_bitCount_0f7a4_2 : decode cJ6_bitCount_0f7a4 2 = .ok (.iconst 1, 1) := by decide +kernel
theorem dJ6_bitCount_0f7a4_3 : decode cJ6_bitCount_0f7a4 3 = .ok (.iushr, 1) := by decide +kernel
theorem dJ6_bitCount_0f7a4_4 : decode cJ6_bitCount_0f7a4 4 = .ok (.ldc_w 265, 3) := by decide +kernel
theorem dJ6_bitCount_0f7a4_7 : decode cJ6_bitCount_0f7a4 7 = .ok (.iand, 1) := by decide +kernel
theorem dJ6_bitCount_0f7a4_8 : decode cJ6_bitCount_0f7a4 8 = .ok (.isub, 1) := by decide +kernel
theorem dJ6_bitCount_0f7a4_9 : decode cJ6_bitCount_0f7a4 9 = .ok (.istore_n 0, 1) := by decide +kernel
theorem dJ6_bitCount_0f7a4_10 : decode cJ6_bitCount_0f7a4 10 = .ok (.iload_n 0, 1) := by decide +kernel
theorem dJ6_bitCount_0f7a4_11 : decode cJ6_bitCount_0f7a4 11 = .ok (.ldc_w 266, 3) := by decide +kernel
theorem dJ6_bitCount_0f7a4_14 : decode cJ6_bitCount_0f7a4 14 = .ok (.iand, 1) := by decide +kernel
theorem dJ6_bitCount_0f7a4_15 : decode cJ6_bitCount_0f7a4 15 = .ok (.iload_n 0, 1) := by decide +kernel
theorem dJ6_bitCount_0f7a4_16 : decode cJ6_bitCount_0f7a4 16 = .ok (.iconst 2, 1) := by decide +kernel
theorem dJ6_bitCount_0f7a4_17 : decode cJ6_bitCount_0f7a4 17 = .ok (.iushr, 1) := by decide +kernel
theorem dJ6_bitCount_0f7a4_18 : decode cJ6_bitCount_0f7a4 18 = .ok (.ldc_w 266, 3) := by decide +kernel
theorem dJ6_bitCount_0f7a4_21 : decode cJ6_bitCount_0f7a4 21 = .ok (.iand, 1) := by decide +kernel
theorem dJ6_bitCount_0f7a4_22 : decode cJ6_bitCount_0f7a4 22 = .ok (.iadd, 1) := by decide +kernel
theorem dJ6_bitCount_0f7a4_23 : decode cJ6_bitCount_0f7a4 23 = .ok (.istore_n 0, 1) := by decide +kernel
theorem dJ6_bitCount_0f7a4_24 : decode cJ6_bitCount_0f7a4 24 = .ok (.iload_n 0, 1) := by decide +kernel
theorem dJ6_bitCount_0f7a4_25 : decode cJ6_bitCount_0f7a4 25 = .ok (.iload_n 0, 1) := by decide +kernel
theorem dJ6_bitCount_0f7a4_26 : decode cJ6_bitCount_0f7a4 26 = .ok (.iconst 4, 1) := by decide +kernel
theorem dJ6_bitCount_0f7a4_27 : decode cJ6_bitCount_0f7a4 27 = .ok (.iushr, 1) := by decide +kernel
theorem dJ6_bitCount_0f7a4_28 : decode cJ6_bitCount_0f7a4 28 = .ok (.iadd, 1) := by decide +kernel
theorem dJ6_bitCount_0f7a4_29 : decode cJ6_bitCount_0f7a4 29 = .ok (.ldc_w 267, 3) := by decide +kernel
theorem dJ6_bitCount_0f7a4_32 : decode cJ6_bitCount_0f7a4 32 = .ok (.iand, 1) := by decide +kernel
theorem dJ6_bitCount_0f7a4_33 : decode cJ6_bitCount_0f7a4 33 = .ok (.istore_n 0, 1) := by decide +kernel
theorem dJ6_bitCount_0f7a4_34 : decode cJ6_bitCount_0f7a4 34 = .ok (.iload_n 0, 1) := by decide +kernel
theorem dJ6_bitCount_0f7a4_35 : decode cJ6_bitCount_0f7a4 35 = .ok (.iload_n 0, 1) := by decide +kernel
theorem dJ6_bitCount_0f7a4_36 : decode cJ6_bitCount_0f7a4 36 = .ok (.bipush 8, 2) := by decide +kernel
theorem dJ6_bitCount_0f7a4_38 : decode cJ6_bitCount_0f7a4 38 = .ok (.iushr, 1) := by decide +kernel
theorem dJ6_bitCount_0f7a4_39 : decode cJ6_bitCount_0f7a4 39 = .ok (.iadd, 1) := by decide +kernel
theorem dJ6_bitCount_0f7a4_40 : decode cJ6_bitCount_0f7a4 40 = .ok (.istore_n 0, 1) := by decide +kernel
theorem dJ6_bitCount_0f7a4_41 : decode cJ6_bitCount_0f7a4 41 = .ok (.iload_n 0, 1) := by decide +kernel
theorem dJ6_bitCount_0f7a4_42 : decode cJ6_bitCount_0f7a4 42 = .ok (.iload_n 0, 1) := by decide +kernel
theorem dJ6_bitCount_0f7a4_43 : decode cJ6_bitCount_0f7a4 43 = .ok (.bipush 16, 2) := by decide +kernel
theorem dJ6_bitCount_0f7a4_45 : decode cJ6_bitCount_0f7a4 45 = .ok (.iushr, 1) := by decide +kernel
theorem dJ6_bitCount_0f7a4_46 : decode cJ6_bitCount_0f7a4 46 = .ok (.iadd, 1) := by decide +kernel
theorem dJ6_bitCount_0f7a4_47 : decode cJ6_bitCount_0f7a4 47 = .ok (.istore_n 0, 1) := by decide +kernel
theorem dJ6_bitCount_0f7a4_48 : decode cJ6_bitCount_0f7a4 48 = .ok (.iload_n 0, 1) := by decide +kernel
theorem dJ6_bitCount_0f7a4_49 : decode cJ6_bitCount_0f7a4 49 = .ok (.bipush 63, 2) := by decide +kernel
theorem dJ6_bitCount_0f7a4_51 : decode cJ6_bitCount_0f7a4 51 = .ok (.iand, 1) := by decide +kernel
theorem dJ6_bitCount_0f7a4_52 : decode cJ6_bitCount_0f7a4 52 = .ok (.ireturn, 1) := by decide +kernel
theorem dJ13_numberOfTrailingZeros_95d88_0 : decode cJ13_numberOfTrailingZeros_95d88 0 = .ok (.lload_n 0, 1) := by decide +kernel
theorem dJ13_numberOfTrailingZeros_95d88_1 : decode cJ13_numberOfTrailingZeros_95d88 1 = .ok (.l2i, 1) := by decide +kernel
theorem dJ13_numberOfTrailingZeros_95d88_2 : decode cJ13_numberOfTrailingZeros_95d88 2 = .ok (.istore_n 2, 1) := by decide +kernel
theorem dJ13_numberOfTrailingZeros_95d88_3 : decode cJ13_numberOfTrailingZeros_95d88 3 = .ok (.iload_n 2, 1) := by decide +kernel
theorem dJ13_numberOfTrailingZeros_95d88_4 : decode cJ13_numberOfTrailingZeros_95d88 4 = .ok (.ifCond .ne 17, 3) := by decide +kernel
theorem dJ13_numberOfTrailingZeros_95d88_7 : decode cJ13_numberOfTrailingZeros_95d88 7 = .ok (.bipush 32, 2) := by decide +kernel
theorem dJ13_numberOfTrailingZeros_95d88_9 : decode cJ13_numberOfTrailingZeros_95d88 9 = .ok (.lload_n 0, 1) := by decide +kernel
theorem dJ13_numberOfTrailingZeros_95d88_10 : decode cJ13_numberOfTrailingZeros_95d88 10 = .ok (.bipush 32, 2) := by decide +kernel
theorem dJ13_numberOfTrailingZeros_95d88_12 : decode cJ13_numberOfTrailingZeros_95d88 12 = .ok (.lushr, 1) := by decide +kernel
theorem dJ13_numberOfTrailingZeros_95d88_13 : decode cJ13_numberOfTrailingZeros_95d88 13 = .ok (.l2i, 1) := by decide +kernel
theorem dJ13_numberOfTrailingZeros_95d88_14 : decode cJ13_numberOfTrailingZeros_95d88 14 = .ok (.invokestatic 311, 3) := by decide +kernel
theorem dJ13_numberOfTrailingZeros_95d88_17 : decode cJ13_numberOfTrailingZeros_95d88 17 = .ok (.iadd, 1) := by decide +kernel
theorem dJ13_numberOfTrailingZeros_95d88_18 : decode cJ13_numberOfTrailingZeros_95d88 18 = .ok (.goto 7, 3) := by decide +kernel
theorem dJ13_numberOfTrailingZeros_95d88_21 : decode cJ13_numberOfTrailingZeros_95d88 21 = .ok (.iload_n 2, 1) := by decide +kernel
theorem dJ13_numberOfTrailingZeros_95d88_22 : decode cJ13_numberOfTrailingZeros_95d88 22 = .ok (.invokestatic 311, 3) := by decide +kernel
theorem dJ13_numberOfTrailingZeros_95d88_25 : decode cJ13_numberOfTrailingZeros_95d88 25 = .ok (.ireturn, 1) := by decide +kernel
theorem dJ13_bitCount_95d88_0 : decode cJ13_bitCount_95d88 0 = .ok (.lload_n 0, 1) := by decide +kernel
theorem dJ13_bitCount_95d88_1 : decode cJ13_bitCount_95d88 1 = .ok (.lload_n 0, 1) := by decide +kernel
theorem dJ13_bitCount_95d88_2 : decode cJ13_bitCount_95d88 2 = .ok (.iconst 1, 1) := by decide +kernel
theorem dJ13_bitCount_95d88_3 : decode cJ13_bitCount_95d88 3 = .ok (.lushr, 1) := by decide +kernel
theorem dJ13_bitCount_95d88_4 : decode cJ13_bitCount_95d88 4 = .ok (.ldc2_w 314, 3) := by decide +kernel
theorem dJ13_bitCount_95d88_7 : decode cJ13_bitCount_95d88 7 = .ok (.land, 1) := by decide +kernel
theorem dJ13_bitCount_95d88_8 : decode cJ13_bitCount_95d88 8 = .ok (.lsub, 1) := by decide +kernel
theorem dJ13_bitCount_95d88_9 : decode cJ13_bitCount_95d88 9 = .ok (.lstore_n 0, 1) := by decide +kernel
theorem dJ13_bitCount_95d88_10 : decode cJ13_bitCount_95d88 10 = .ok (.lload_n 0, 1) := by decide +kernel
theorem dJ13_bitCount_95d88_11 : decode cJ13_bitCount_95d88 11 = .ok (.ldc2_w 316, 3) := by decide +kernel
theorem dJ13_bitCount_95d88_14 : decode cJ13_bitCount_95d88 14 = .ok (.land, 1) := by decide +kernel
theorem dJ13_bitCount_95d88_15 : decode cJ13_bitCount_95d88 15 = .ok (.lload_n 0, 1) := by decide +kernel
theorem dJ13_bitCount_95d88_16 : decode cJ13_bitCount_95d88 16 = .ok (.iconst 2, 1) := by decide +kernel
theorem dJ13_bitCount_95d88_17 : decode cJ13_bitCount_95d88 17 = .ok (.lushr, 1) := by decide +kernel
theorem dJ13_bitCount_95d88_18 : decode cJ13_bitCount_95d88 18 = .ok (.ldc2_w 316, 3) := by decide +kernel
theorem dJ13_bitCount_95d88_21 : decode cJ13_bitCount_95d88 21 = .ok (.land, 1) := by decide +kernel
theorem dJ13_bitCount_95d88_22 : decode cJ13_bitCount_95d88 22 = .ok (.ladd, 1) := by decide +kernel
theorem dJ13_bitCount_95d88_23 : decode cJ13_bitCount_95d88 23 = .ok (.lstore_n 0, 1) := by decide +kernel
theorem dJ13_bitCount_95d88_24 : decode cJ13_bitCount_95d88 24 = .ok (.lload_n 0, 1) := by decide +kernel
theorem dJ13_bitCount_95d88_25 : decode cJ13_bitCount_95d88 25 = .ok (.lload_n 0, 1) := by decide +kernel
theorem dJ13_bitCount_95d88_26 : decode cJ13_bitCount_95d88 26 = .ok (.iconst 4, 1) := by decide +kernel
theorem dJ13_bitCount_95d88_27 : decode cJ13_bitCount_95d88 27 = .ok (.lushr, 1) := by decide +kernel
theorem dJ13_bitCount_95d88_28 : decode cJ13_bitCount_95d88 28 = .ok (.ladd, 1) := by decide +kernel
theorem dJ13_bitCount_95d88_29 : decode cJ13_bitCount_95d88 29 = .ok (.ldc2_w 318, 3) := by decide +kernel
theorem dJ13_bitCount_95d88_32 : decode cJ13_bitCount_95d88 32 = .ok (.land, 1) := by decide +kernel
theorem dJ13_bitCount_95d88_33 : decode cJ13_bitCount_95d88 33 = .ok (.lstore_n 0, 1) := by decide +kernel
theorem dJ13_bitCount_95d88_34 : decode cJ13_bitCount_95d88 34 = .ok (.lload_n 0, 1) := by decide +kernel
theorem dJ13_bitCount_95d88_35 : decode cJ13_bitCount_95d88 35 = .ok (.lload_n 0, 1) := by decide +kernel
theorem dJ13_bitCount_95d88_36 : decode cJ13_bitCount_95d88 36 = .ok (.bipush 8, 2) := by decide +kernel
theorem dJ13_bitCount_95d88_38 : decode cJ13_bitCount_95d88 38 = .ok (.lushr, 1) := by decide +kernel
theorem dJ13_bitCount_95d88_39 : decode cJ13_bitCount_95d88 39 = .ok (.ladd, 1) := by decide +kernel
theorem dJ13_bitCount_95d88_40 : decode cJ13_bitCount_95d88 40 = .ok (.lstore_n 0, 1) := by decide +kernel
theorem dJ13_bitCount_95d88_41 : decode cJ13_bitCount_95d88 41 = .ok (.lload_n 0, 1) := by decide +kernel
theorem dJ13_bitCount_95d88_42 : decode cJ13_bitCount_95d88 42 = .ok (.lload_n 0, 1) := by decide +kernel
theorem dJ13_bitCount_95d88_43 : decode cJ13_bitCount_95d88 43 = .ok (.bipush 16, 2) := by decide +kernel
theorem dJ13_bitCount_95d88_45 : decode cJ13_bitCount_95d88 45 = .ok (.lushr, 1) := by decide +kernel
theorem dJ13_bitCount_95d88_46 : decode cJ13_bitCount_95d88 46 = .ok (.ladd, 1) := by decide +kernel
theorem dJ13_bitCount_95d88_47 : decode cJ13_bitCount_95d88 47 = .ok (.lstore_n 0, 1) := by decide +kernel
theorem dJ13_bitCount_95d88_48 : decode cJ13_bitCount_95d88 48 = .ok (.lload_n 0, 1) := by decide +kernel
theorem dJ13_bitCount_95d88_49 : decode cJ13_bitCount_95d88 49 = .ok (.lload_n 0, 1) := by decide +kernel
theorem dJ13_bitCount_95d88_50 : decode cJ13_bitCount_95d88 50 = .ok (.bipush 32, 2) := by decide +kernel
theorem dJ13_bitCount_95d88_52 : decode cJ13_bitCount_95d88 52 = .ok (.lushr, 1) := by decide +kernel
theorem dJ13_bitCount_95d88_53 : decode cJ13_bitCount_95d88 53 = .ok (.ladd, 1) := by decide +kernel
theorem dJ13_bitCount_95d88_54 : decode cJ13_bitCount_95d88 54 = .ok (.lstore_n 0, 1) := by decide +kernel
theorem dJ13_bitCount_95d88_55 : decode cJ13_bitCount_95d88 55 = .ok (.lload_n 0, 1) := by decide +kernel
theorem dJ13_bitCount_95d88_56 : decode cJ13_bitCount_95d88 56 = .ok (.l2i, 1) := by decide +kernel
theorem dJ13_bitCount_95d88_57 : decode cJ13_bitCount_95d88 57 = .ok (.bipush 127, 2) := by decide +kernel
theorem dJ13_bitCount_95d88_59 : decode cJ13_bitCount_95d88 59 = .ok (.iand, 1) := by decide +kernel
theorem dJ13_bitCount_95d88_60 : decode cJ13_bitCount_95d88 60 = .ok (.ireturn, 1) := by decide +kernel
theorem dJ9_abs_067f4_0 : decode cJ9_abs_067f4 0 = .ok (.lload_n 0, 1) := by decide +kernel
theorem dJ9_abs_067f4_1 : decode cJ9_abs_067f4 1 = .ok (.lconst 0, 1) := by decide +kernel
theorem dJ9_abs_067f4_2 : decode cJ9_abs_067f4 2 = .ok (.lcmp, 1) := by decide +kernel
theorem dJ9_abs_067f4_3 : decode cJ9_abs_067f4 3 = .ok (.ifCond .ge 8, 3) := by decide +kernel
theorem dJ9_abs_067f4_6 : decode cJ9_abs_067f4 6 = .ok (.lload_n 0, 1) := by decide +kernel
theorem dJ9_abs_067f4_7 : decode cJ9_abs_067f4 7 = .ok (.lneg, 1) := by decide +kernel
theorem dJ9_abs_067f4_8 : decode cJ9_abs_067f4 8 = .ok (.goto 4, 3) := by decide +kernel
theorem dJ9_abs_067f4_11 : decode cJ9_abs_067f4 11 = .ok (.lload_n 0, 1) := by decide +kernel
theorem dJ9_abs_067f4_12 : decode cJ9_abs_067f4 12 = .ok (.lreturn, 1) := by decide +kernel
theorem dJ9_max_7cf53_0 : decode cJ9_max_7cf53 0 = .ok (.iload_n 0, 1) := by decide +kernel
theorem dJ9_max_7cf53_1 : decode cJ9_max_7cf53 1 = .ok (.iload_n 1, 1) := by decide +kernel
theorem dJ9_max_7cf53_2 : decode cJ9_max_7cf53 2 = .ok (.if_icmp .lt 7, 3) := by decide +kernel
theorem dJ9_max_7cf53_5 : decode cJ9_max_7cf53 5 = .ok (.iload_n 0, 1) := by decide +kernel
theorem dJ9_max_7cf53_6 : decode cJ9_max_7cf53 6 = .ok (.goto 4, 3) := by decide +kernel
theorem dJ9_max_7cf53_9 : decode cJ9_max_7cf53 9 = .ok (.iload_n 1, 1) := by decide +kernel
theorem dJ9_max_7cf53_10 : decode cJ9_max_7cf53 10 = .ok (.ireturn, 1) := by decide +kernel
theorem dJ9_min_7cf53_0 : decode cJ9_min_7cf53 0 = .ok (.iload_n 0, 1) := by decide +kernel
theorem dJ9_min_7cf53_1 : decode cJ9_min_7cf53 1 = .ok (.iload_n 1, 1) := by decide +kernel
theorem dJ9_min_7cf53_2 : decode cJ9_min_7cf53 2 = .ok (.if_icmp .gt 7, 3) := by decide +kernel
theorem dJ9_min_7cf53_5 : decode cJ9_min_7cf53 5 = .ok (.iload_n 0, 1) := by decide +kernel
theorem dJ9_min_7cf53_6 : decode cJ9_min_7cf53 6 = .ok (.goto 4, 3) := by decide +kernel
theorem dJ9_min_7cf53_9 : decode cJ9_min_7cf53 9 = .ok (.iload_n 1, 1) := by decide +kernel
theorem dJ9_min_7cf53_10 : decode cJ9_min_7cf53 10 = .ok (.ireturn, 1) := by decide +kernel
theorem dL_law_0 : decode cL_law 0 = .ok (.new 7, 3) := by decide +kernel
theorem dL_law_3 : decode cL_law 3 = .ok (.dup, 1) := by decide +kernel
theorem dL_law_4 : decode cL_law 4 = .ok (.invokespecial 9, 3) := by decide +kernel
theorem dL_law_7 : decode cL_law 7 = .ok (.astore_n 1, 1) := by decide +kernel
theorem dL_law_8 : decode cL_law 8 = .ok (.new 10, 3) := by decide +kernel
theorem dL_law_11 : decode cL_law 11 = .ok (.dup, 1) := by decide +kernel
theorem dL_law_12 : decode cL_law 12 = .ok (.invokespecial 12, 3) := by decide +kernel
theorem dL_law_15 : decode cL_law 15 = .ok (.astore_n 2, 1) := by decide +kernel
theorem dL_law_16 : decode cL_law 16 = .ok (.iconst 0, 1) := by decide +kernel
theorem dL_law_17 : decode cL_law 17 = .ok (.istore_n 3, 1) := by decide +kernel
theorem dL_law_18 : decode cL_law 18 = .ok (.iload_n 3, 1) := by decide +kernel
theorem dL_law_19 : decode cL_law 19 = .ok (.aload_n 0, 1) := by decide +kernel
theorem dL_law_20 : decode cL_law 20 = .ok (.arraylength, 1) := by decide +kernel
theorem dL_law_21 : decode cL_law 21 = .ok (.bipush 6, 2) := by decide +kernel
theorem dL_law_23 : decode cL_law 23 = .ok (.isub, 1) := by decide +kernel
theorem dL_law_24 : decode cL_law 24 = .ok (.if_icmp .gt 1233, 3) := by decide +kernel
theorem dL_law_27 : decode cL_law 27 = .ok (.aload_n 0, 1) := by decide +kernel
theorem dL_law_28 : decode cL_law 28 = .ok (.iload_n 3, 1) := by decide +kernel
theorem dL_law_29 : decode cL_law 29 = .ok (.iaload, 1) := by decide +kernel
theorem dL_law_30 : decode cL_law 30 = .ok (.bipush 31, 2) := by decide +kernel
theorem dL_law_32 : decode cL_law 32 = .ok (.iand, 1) := by decide +kernel
theorem dL_law_33 : decode cL_law 33 = .ok (.tableswitch 1218 0 31 #[143, 196, 219, 232, 245, 268, 301, 334, 357, 391, 425, 448, 472, 496, 520, 554, 598, 631, 674, 707, 740, 793, 856, 889, 923, 967, 1000, 1023, 1056, 1099, 1142, 1195], 143) := by decide +kernel
theorem dL_law_176 : decode cL_law 176 = .ok (.aload_n 1, 1) := by decide +kernel
theorem dL_law_177 : decode cL_law 177 = .ok (.aload_n 0, 1) := by decide +kernel
theorem dL_law_178 : decode cL_law 178 = .ok (.iload_n 3, 1) := by decide +kernel
theorem dL_law_179 : decode cL_law 179 = .ok (.iconst 1, 1) := by decide +kernel
theorem dL_law_180 : decode cL_law 180 = .ok (.iadd, 1) := by decide +kernel
theorem dL_law_181 : decode cL_law 181 = .ok (.iaload, 1) := by decide +kernel
theorem dL_law_182 : decode cL_law 182 = .ok (.i2l, 1) := by decide +kernel
theorem dL_law_183 : decode cL_law 183 = .ok (.bipush 32, 2) := by decide +kernel
theorem dL_law_185 : decode cL_law 185 = .ok (.lshl, 1) := by decide +kernel
theorem dL_law_186 : decode cL_law 186 = .ok (.aload_n 0, 1) := by decide +kernel
theorem dL_law_187 : decode cL_law 187 = .ok (.iload_n 3, 1) := by decide +kernel
theorem dL_law_188 : decode cL_law 188 = .ok (.iconst 2, 1) := by decide +kernel
theorem dL_law_189 : decode cL_law 189 = .ok (.iadd, 1) := by decide +kernel
theorem dL_law_190 : decode cL_law 190 = .ok (.iaload, 1) := by decide +kernel
theorem dL_law_191 : decode cL_law 191 = .ok (.i2l, 1) := by decide +kernel
theorem dL_law_192 : decode cL_law 192 = .ok (.ldc2_w 13, 3) := by decide +kernel
theorem dL_law_195 : decode cL_law 195 = .ok (.land, 1) := by decide +kernel
theorem dL_law_196 : decode cL_law 196 = .ok (.lor, 1) := by decide +kernel
theorem dL_law_197 : decode cL_law 197 = .ok (.invokevirtual 15, 3) := by decide +kernel
theorem dL_law_200 : decode cL_law 200 = .ok (.aload_n 2, 1) := by decide +kernel
theorem dL_law_201 : decode cL_law 201 = .ok (.aload_n 0, 1) := by decide +kernel
theorem dL_law_202 : decode cL_law 202 = .ok (.iload_n 3, 1) := by decide +kernel
theorem dL_law_203 : decode cL_law 203 = .ok (.iconst 1, 1) := by decide +kernel
theorem dL_law_204 : decode cL_law 204 = .ok (.iadd, 1) := by decide +kernel
theorem dL_law_205 : decode cL_law 205 = .ok (.iaload, 1) := by decide +kernel
theorem dL_law_206 : decode cL_law 206 = .ok (.i2l, 1) := by decide +kernel
theorem dL_law_207 : decode cL_law 207 = .ok (.bipush 32, 2) := by decide +kernel
theorem dL_law_209 : decode cL_law 209 = .ok (.lshl, 1) := by decide +kernel
theorem dL_law_210 : decode cL_law 210 = .ok (.aload_n 0, 1) := by decide +kernel
theorem dL_law_211 : decode cL_law 211 = .ok (.iload_n 3, 1) := by decide +kernel
theorem dL_law_212 : decode cL_law 212 = .ok (.iconst 2, 1) := by decide +kernel
theorem dL_law_213 : decode cL_law 213 = .ok (.iadd, 1) := by decide +kernel
theorem dL_law_214 : decode cL_law 214 = .ok (.iaload, 1) := by decide +kernel
theorem dL_law_215 : decode cL_law 215 = .ok (.i2l, 1) := by decide +kernel
theorem dL_law_216 : decode cL_law 216 = .ok (.ldc2_w 13, 3) := by decide +kernel
theorem dL_law_219 : decode cL_law 219 = .ok (.land, 1) := by decide +kernel
theorem dL_law_220 : decode cL_law 220 = .ok (.lor, 1) := by decide +kernel
theorem dL_law_221 : decode cL_law 221 = .ok (.invokevirtual 19, 3) := by decide +kernel
theorem dL_law_224 : decode cL_law 224 = .ok (.if_icmp .eq 1027, 3) := by decide +kernel
theorem dL_law_227 : decode cL_law 227 = .ok (.iconst 0, 1) := by decide +kernel
theorem dL_law_228 : decode cL_law 228 = .ok (.ireturn, 1) := by decide +kernel
theorem dL_law_229 : decode cL_law 229 = .ok (.aload_n 1, 1) := by decide +kernel
theorem dL_law_230 : decode cL_law 230 = .ok (.aload_n 0, 1) := by decide +kernel
theorem dL_law_231 : decode cL_law 231 = .ok (.iload_n 3, 1) := by decide +kernel
theorem dL_law_232 : decode cL_law 232 = .ok (.iconst 1, 1) := by decide +kernel
theorem dL_law_233 : decode cL_law 233 = .ok (.iadd, 1) := by decide +kernel
theorem dL_law_234 : decode cL_law 234 = .ok (.iaload, 1) := by decide +kernel
theorem dL_law_235 : decode cL_law 235 = .ok (.invokevirtual 20, 3) := by decide +kernel
theorem dL_law_238 : decode cL_law 238 = .ok (.aload_n 2, 1) := by decide +kernel
theorem dL_law_239 : decode cL_law 239 = .ok (.aload_n 0, 1) := by decide +kernel
theorem dL_law_240 : decode cL_law 240 = .ok (.iload_n 3, 1) := by decide +kernel
theorem dL_law_241 : decode cL_law 241 = .ok (.iconst 1, 1) := by decide +kernel
theorem dL_law_242 : decode cL_law 242 = .ok (.iadd, 1) := by decide +kernel
theorem dL_law_243 : decode cL_law 243 = .ok (.iaload, 1) := by decide +kernel
theorem dL_law_244 : decode cL_law 244 = .ok (.invokevirtual 24, 3) := by decide +kernel
theorem dL_law_247 : decode cL_law 247 = .ok (.if_icmp .eq 1004, 3) := by decide +kernel
theorem dL_law_250 : decode cL_law 250 = .ok (.iconst 0, 1) := by decide +kernel
theorem dL_law_251 : decode cL_law 251 = .ok (.ireturn, 1) := by decide +kernel
theorem dL_law_252 : decode cL_law 252 = .ok (.aload_n 1, 1) := by decide +kernel
theorem dL_law_253 : decode cL_law 253 = .ok (.invokevirtual 25, 3) := by decide +kernel
theorem dL_law_256 : decode cL_law 256 = .ok (.aload_n 2, 1) := by decide +kernel
theorem dL_law_257 : decode cL_law 257 = .ok (.invokevirtual 29, 3) := by decide +kernel
theorem dL_law_260 : decode cL_law 260 = .ok (.if_icmp .eq 991, 3) := by decide +kernel
theorem dL_law_263 : decode cL_law 263 = .ok (.iconst 0, 1) := by decide +kernel
theorem dL_law_264 : decode cL_law 264 = .ok (.ireturn, 1) := by decide +kernel
theorem dL_law_265 : decode cL_law 265 = .ok (.aload_n 1, 1) := by decide +kernel
theorem dL_law_266 : decode cL_law 266 = .ok (.invokevirtual 30, 3) := by decide +kernel
theorem dL_law_269 : decode cL_law 269 = .ok (.aload_n 2, 1) := by decide +kernel
theorem dL_law_270 : decode cL_law 270 = .ok (.invokevirtual 33, 3) := by decide +kernel
theorem dL_law_273 : decode cL_law 273 = .ok (.if_icmp .eq 978, 3) := by decide +kernel
theorem dL_law_276 : decode cL_law 276 = .ok (.iconst 0, 1) := by decide +kernel
theorem dL_law_277 : decode cL_law 277 = .ok (.ireturn, 1) := by decide +kernel
theorem dL_law_278 : decode cL_law 278 = .ok (.aload_n 1, 1) := by decide +kernel
theorem dL_law_279 : decode cL_law 279 = .ok (.aload_n 0, 1) := by decide +kernel
theorem dL_law_280 : decode cL_law 280 = .ok (.iload_n 3, 1) := by decide +kernel
theorem dL_law_281 : decode cL_law 281 = .ok (.iconst 1, 1) := by decide +kernel
theorem dL_law_282 : decode cL_law 282 = .ok (.iadd, 1) := by decide +kernel
theorem dL_law_283 : decode cL_law 283 = .ok (.iaload, 1) := by decide +kernel
theorem dL_law_284 : decode cL_law 284 = .ok (.invokevirtual 34, 3) := by decide +kernel
theorem dL_law_287 : decode cL_law 287 = .ok (.aload_n 2, 1) := by decide +kernel
theorem dL_law_288 : decode cL_law 288 = .ok (.aload_n 0, 1) := by decide +kernel
theorem dL_law_289 : decode cL_law 289 = .ok (.iload_n 3, 1) := by decide +kernel
theorem dL_law_290 : decode cL_law 290 = .ok (.iconst 1, 1) := by decide +kernel
theorem dL_law_291 : decode cL_law 291 = .ok (.iadd, 1) := by decide +kernel
theorem dL_law_292 : decode cL_law 292 = .ok (.iaload, 1) := by decide +kernel
theorem dL_law_293 : decode cL_law 293 = .ok (.invokevirtual 37, 3) := by decide +kernel
theorem dL_law_296 : decode cL_law 296 = .ok (.if_icmp .eq 955, 3) := by decide +kernel
theorem dL_law_299 : decode cL_law 299 = .ok (.iconst 0, 1) := by decide +kernel
theorem dL_law_300 : decode cL_law 300 = .ok (.ireturn, 1) := by decide +kernel
theorem dL_law_301 : decode cL_law 301 = .ok (.aload_n 1, 1) := by decide +kernel
theorem dL_law_302 : decode cL_law 302 = .ok (.aload_n 0, 1) := by decide +kernel
theorem dL_law_303 : decode cL_law 303 = .ok (.iload_n 3, 1) := by decide +kernel
theorem dL_law_304 : decode cL_law 304 = .ok (.iconst 1, 1) := by decide +kernel
theorem dL_law_305 : decode cL_law 305 = .ok (.iadd, 1) := by decide +kernel
theorem dL_law_306 : decode cL_law 306 = .ok (.iaload, 1) := by decide +kernel
theorem dL_law_307 : decode cL_law 307 = .ok (.aload_n 0, 1) := by decide +kernel
theorem dL_law_308 : decode cL_law 308 = .ok (.iload_n 3, 1) := by decide +kernel
theorem dL_law_309 : decode cL_law 309 = .ok (.iconst 2, 1) := by decide +kernel
theorem dL_law_310 : decode cL_law 310 = .ok (.iadd, 1) := by decide +kernel
theorem dL_law_311 : decode cL_law 311 = .ok (.iaload, 1) := by decide +kernel
theorem dL_law_312 : decode cL_law 312 = .ok (.invokevirtual 38, 3) := by decide +kernel
theorem dL_law_315 : decode cL_law 315 = .ok (.aload_n 2, 1) := by decide +kernel
theorem dL_law_316 : decode cL_law 316 = .ok (.aload_n 0, 1) := by decide +kernel
theorem dL_law_317 : decode cL_law 317 = .ok (.iload_n 3, 1) := by decide +kernel
theorem dL_law_318 : decode cL_law 318 = .ok (.iconst 1, 1) := by decide +kernel
theorem dL_law_319 : decode cL_law 319 = .ok (.iadd, 1) := by decide +kernel
theorem dL_law_320 : decode cL_law 320 = .ok (.iaload, 1) := by decide +kernel
theorem dL_law_321 : decode cL_law 321 = .ok (.aload_n 0, 1) := by decide +kernel
theorem dL_law_322 : decode cL_law 322 = .ok (.iload_n 3, 1) := by decide +kernel
theorem dL_law_323 : decode cL_law 323 = .ok (.iconst 2, 1) := by decide +kernel
theorem dL_law_324 : decode cL_law 324 = .ok (.iadd, 1) := by decide +kernel
theorem dL_law_325 : decode cL_law 325 = .ok (.iaload, 1) := by decide +kernel
theorem dL_law_326 : decode cL_law 326 = .ok (.invokevirtual 42, 3) := by decide +kernel
theorem dL_law_329 : decode cL_law 329 = .ok (.if_icmp .eq 922, 3) := by decide +kernel
theorem dL_law_332 : decode cL_law 332 = .ok (.iconst 0, 1) := by decide +kernel
theorem dL_law_333 : decode cL_law 333 = .ok (.ireturn, 1) := by decide +kernel
theorem dL_law_334 : decode cL_law 334 = .ok (.aload_n 1, 1) := by decide +kernel
theorem dL_law_335 : decode cL_law 335 = .ok (.aload_n 0, 1) := by decide +kernel
theorem dL_law_336 : decode cL_law 336 = .ok (.iload_n 3, 1) := by decide +kernel
theorem dL_law_337 : decode cL_law 337 = .ok (.iconst 1, 1) := by decide +kernel
theorem dL_law_338 : decode cL_law 338 = .ok (.iadd, 1) := by decide +kernel
theorem dL_law_339 : decode cL_law 339 = .ok (.iaload, 1) := by decide +kernel
theorem dL_law_340 : decode cL_law 340 = .ok (.aload_n 0, 1) := by decide +kernel
theorem dL_law_341 : decode cL_law 341 = .ok (.iload_n 3, 1) := by decide +kernel
theorem dL_law_342 : decode cL_law 342 = .ok (.iconst 2, 1) := by decide +kernel
theorem dL_law_343 : decode cL_law 343 = .ok (.iadd, 1) := by decide +kernel
theorem dL_law_344 : decode cL_law 344 = .ok (.iaload, 1) := by decide +kernel
theorem dL_law_345 : decode cL_law 345 = .ok (.invokevirtual 43, 3) := by decide +kernel
theorem dL_law_348 : decode cL_law 348 = .ok (.aload_n 2, 1) := by decide +kernel
theorem dL_law_349 : decode cL_law 349 = .ok (.aload_n 0, 1) := by decide +kernel
theorem dL_law_350 : decode cL_law 350 = .ok (.iload_n 3, 1) := by decide +kernel
theorem dL_law_351 : decode cL_law 351 = .ok (.iconst 1, 1) := by decide +kernel
theorem dL_law_352 : decode cL_law 352 = .ok (.iadd, 1) := by decide +kernel
theorem dL_law_353 : decode cL_law 353 = .ok (.iaload, 1) := by decide +kernel
theorem dL_law_354 : decode cL_law 354 = .ok (.aload_n 0, 1) := by decide +kernel
theorem dL_law_355 : decode cL_law 355 = .ok (.iload_n 3, 1) := by decide +kernel
theorem dL_law_356 : decode cL_law 356 = .ok (.iconst 2, 1) := by decide +kernel
theorem dL_law_357 : decode cL_law 357 = .ok (.iadd, 1) := by decide +kernel
theorem dL_law_358 : decode cL_law 358 = .ok (.iaload, 1) := by decide +kernel
theorem dL_law_359 : decode cL_law 359 = .ok (.invokevirtual 46, 3) := by decide +kernel
theorem dL_law_362 : decode cL_law 362 = .ok (.if_icmp .eq 889, 3) := by decide +kernel
theorem dL_law_365 : decode cL_law 365 = .ok (.iconst 0, 1) := by decide +kernel
theorem dL_law_366 : decode cL_law 366 = .ok (.ireturn, 1) := by decide +kernel
theorem dL_law_367 : decode cL_law 367 = .ok (.aload_n 1, 1) := by decide +kernel
theorem dL_law_368 : decode cL_law 368 = .ok (.aload_n 0, 1) := by decide +kernel
theorem dL_law_369 : decode cL_law 369 = .ok (.iload_n 3, 1) := by decide +kernel
theorem dL_law_370 : decode cL_law 370 = .ok (.iconst 1, 1) := by decide +kernel
theorem dL_law_371 : decode cL_law 371 = .ok (.iadd, 1) := by decide +kernel
theorem dL_law_372 : decode cL_law 372 = .ok (.iaload, 1) := by decide +kernel
theorem dL_law_373 : decode cL_law 373 = .ok (.invokevirtual 47, 3) := by decide +kernel
theorem dL_law_376 : decode cL_law 376 = .ok (.aload_n 2, 1) := by decide +kernel
theorem dL_law_377 : decode cL_law 377 = .ok (.aload_n 0, 1) := by decide +kernel
theorem dL_law_378 : decode cL_law 378 = .ok (.iload_n 3, 1) := by decide +kernel
theorem dL_law_379 : decode cL_law 379 = .ok (.iconst 1, 1) := by decide +kernel
theorem dL_law_380 : decode cL_law 380 = .ok (.iadd, 1) := by decide +kernel
theorem dL_law_381 : decode cL_law 381 = .ok (.iaload, 1) := by decide +kernel
theorem dL_law_382 : decode cL_law 382 = .ok (.invokevirtual 50, 3) := by decide +kernel
theorem dL_law_385 : decode cL_law 385 = .ok (.if_icmp .eq 866, 3) := by decide +kernel
theorem dL_law_388 : decode cL_law 388 = .ok (.iconst 0, 1) := by decide +kernel
theorem dL_law_389 : decode cL_law 389 = .ok (.ireturn, 1) := by decide +kernel
theorem dL_law_390 : decode cL_law 390 = .ok (.aload_n 1, 1) := by decide +kernel
theorem dL_law_391 : decode cL_law 391 = .ok (.aload_n 0, 1) := by decide +kernel
theorem dL_law_392 : decode cL_law 392 = .ok (.iload_n 3, 1) := by decide +kernel
theorem dL_law_393 : decode cL_law 393 = .ok (.iconst 1, 1) := by decide +kernel
theorem dL_law_394 : decode cL_law 394 = .ok (.iadd, 1) := by decide +kernel
theorem dL_law_395 : decode cL_law 395 = .ok (.iaload, 1) := by decide +kernel
theorem dL_law_396 : decode cL_law 396 = .ok (.aload_n 0, 1) := by decide +kernel
theorem dL_law_397 : decode cL_law 397 = .ok (.iload_n 3, 1) := by decide +kernel
theorem dL_law_398 : decode cL_law 398 = .ok (.iconst 2, 1) := by decide +kernel
theorem dL_law_399 : decode cL_law 399 = .ok (.iadd, 1) := by decide +kernel
theorem dL_law_400 : decode cL_law 400 = .ok (.iaload, 1) := by decide +kernel
theorem dL_law_401 : decode cL_law 401 = .ok (.invokevirtual 51, 3) := by decide +kernel
theorem dL_law_404 : decode cL_law 404 = .ok (.aload_n 2, 1) := by decide +kernel
theorem dL_law_405 : decode cL_law 405 = .ok (.aload_n 0, 1) := by decide +kernel
theorem dL_law_406 : decode cL_law 406 = .ok (.iload_n 3, 1) := by decide +kernel
theorem dL_law_407 : decode cL_law 407 = .ok (.iconst 1, 1) := by decide +kernel
theorem dL_law_408 : decode cL_law 408 = .ok (.iadd, 1) := by decide +kernel
theorem dL_law_409 : decode cL_law 409 = .ok (.iaload, 1) := by decide +kernel
theorem dL_law_410 : decode cL_law 410 = .ok (.aload_n 0, 1) := by decide +kernel
theorem dL_law_411 : decode cL_law 411 = .ok (.iload_n 3, 1) := by decide +kernel
theorem dL_law_412 : decode cL_law 412 = .ok (.iconst 2, 1) := by decide +kernel
theorem dL_law_413 : decode cL_law 413 = .ok (.iadd, 1) := by decide +kernel
theorem dL_law_414 : decode cL_law 414 = .ok (.iaload, 1) := by decide +kernel
theorem dL_law_415 : decode cL_law 415 = .ok (.invokevirtual 55, 3) := by decide +kernel
theorem dL_law_418 : decode cL_law 418 = .ok (.lcmp, 1) := by decide +kernel
theorem dL_law_419 : decode cL_law 419 = .ok (.ifCond .eq 832, 3) := by decide +kernel
theorem dL_law_422 : decode cL_law 422 = .ok (.iconst 0, 1) := by decide +kernel
theorem dL_law_423 : decode cL_law 423 = .ok (.ireturn, 1) := by decide +kernel
theorem dL_law_424 : decode cL_law 424 = .ok (.aload_n 1, 1) := by decide +kernel
theorem dL_law_425 : decode cL_law 425 = .ok (.aload_n 0, 1) := by decide +kernel
theorem dL_law_426 : decode cL_law 426 = .ok (.iload_n 3, 1) := by decide +kernel
theorem dL_law_427 : decode cL_law 427 = .ok (.iconst 1, 1) := by decide +kernel
theorem dL_law_428 : decode cL_law 428 = .ok (.iadd, 1) := by decide +kernel
theorem dL_law_429 : decode cL_law 429 = .ok (.iaload, 1) := by decide +kernel
theorem dL_law_430 : decode cL_law 430 = .ok (.aload_n 0, 1) := by decide +kernel
theorem dL_law_431 : decode cL_law 431 = .ok (.iload_n 3, 1) := by decide +kernel
theorem dL_law_432 : decode cL_law 432 = .ok (.iconst 2, 1) := by decide +kernel
theorem dL_law_433 : decode cL_law 433 = .ok (.iadd, 1) := by decide +kernel
theorem dL_law_434 : decode cL_law 434 = .ok (.iaload, 1) := by decide +kernel
theorem dL_law_435 : decode cL_law 435 = .ok (.invokevirtual 56, 3) := by decide +kernel
theorem dL_law_438 : decode cL_law 438 = .ok (.aload_n 2, 1) := by decide +kernel
theorem dL_law_439 : decode cL_law 439 = .ok (.aload_n 0, 1) := by decide +kernel
theorem dL_law_440 : decode cL_law 440 = .ok (.iload_n 3, 1) := by decide +kernel
theorem dL_law_441 : decode cL_law 441 = .ok (.iconst 1, 1) := by decide +kernel
theorem dL_law_442 : decode cL_law 442 = .ok (.iadd, 1) := by decide +kernel
theorem dL_law_443 : decode cL_law 443 = .ok (.iaload, 1) := by decide +kernel
theorem dL_law_444 : decode cL_law 444 = .ok (.aload_n 0, 1) := by decide +kernel
theorem dL_law_445 : decode cL_law 445 = .ok (.iload_n 3, 1) := by decide +kernel
theorem dL_law_446 : decode cL_law 446 = .ok (.iconst 2, 1) := by decide +kernel
theorem dL_law_447 : decode cL_law 447 = .ok (.iadd, 1) := by decide +kernel
theorem dL_law_448 : decode cL_law 448 = .ok (.iaload, 1) := by decide +kernel
theorem dL_law_449 : decode cL_law 449 = .ok (.invokevirtual 59, 3) := by decide +kernel
theorem dL_law_452 : decode cL_law 452 = .ok (.lcmp, 1) := by decide +kernel
theorem dL_law_453 : decode cL_law 453 = .ok (.ifCond .eq 798, 3) := by decide +kernel
theorem dL_law_456 : decode cL_law 456 = .ok (.iconst 0, 1) := by decide +kernel
theorem dL_law_457 : decode cL_law 457 = .ok (.ireturn, 1) := by decide +kernel
theorem dL_law_458 : decode cL_law 458 = .ok (.aload_n 1, 1) := by decide +kernel
theorem dL_law_459 : decode cL_law 459 = .ok (.aload_n 0, 1) := by decide +kernel
theorem dL_law_460 : decode cL_law 460 = .ok (.iload_n 3, 1) := by decide +kernel
theorem dL_law_461 : decode cL_law 461 = .ok (.iconst 1, 1) := by decide +kernel
theorem dL_law_462 : decode cL_law 462 = .ok (.iadd, 1) := by decide +kernel
theorem dL_law_463 : decode cL_law 463 = .ok (.iaload, 1) := by decide +kernel
theorem dL_law_464 : decode cL_law 464 = .ok (.invokevirtual 60, 3) := by decide +kernel
theorem dL_law_467 : decode cL_law 467 = .ok (.aload_n 2, 1) := by decide +kernel
theorem dL_law_468 : decode cL_law 468 = .ok (.aload_n 0, 1) := by decide +kernel
theorem dL_law_469 : decode cL_law 469 = .ok (.iload_n 3, 1) := by decide +kernel
theorem dL_law_470 : decode cL_law 470 = .ok (.iconst 1, 1) := by decide +kernel
theorem dL_law_471 : decode cL_law 471 = .ok (.iadd, 1) := by decide +kernel
theorem dL_law_472 : decode cL_law 472 = .ok (.iaload, 1) := by decide +kernel
theorem dL_law_473 : decode cL_law 473 = .ok (.invokevirtual 63, 3) := by decide +kernel
theorem dL_law_476 : decode cL_law 476 = .ok (.if_icmp .eq 775, 3) := by decide +kernel
theorem dL_law_479 : decode cL_law 479 = .ok (.iconst 0, 1) := by decide +kernel
theorem dL_law_480 : decode cL_law 480 = .ok (.ireturn, 1) := by decide +kernel
theorem dL_law_481 : decode cL_law 481 = .ok (.aload_n 1, 1) := by decide +kernel
theorem dL_law_482 : decode cL_law 482 = .ok (.aload_n 0, 1) := by decide +kernel
theorem dL_law_483 : decode cL_law 483 = .ok (.iload_n 3, 1) := by decide +kernel
theorem dL_law_484 : decode cL_law 484 = .ok (.iconst 1, 1) := by decide +kernel
theorem dL_law_485 : decode cL_law 485 = .ok (.iadd, 1) := by decide +kernel
theorem dL_law_486 : decode cL_law 486 = .ok (.iaload, 1) := by decide +kernel
theorem dL_law_487 : decode cL_law 487 = .ok (.invokevirtual 64, 3) := by decide +kernel
theorem dL_law_490 : decode cL_law 490 = .ok (.aload_n 2, 1) := by decide +kernel
theorem dL_law_491 : decode cL_law 491 = .ok (.aload_n 0, 1) := by decide +kernel
theorem dL_law_492 : decode cL_law 492 = .ok (.iload_n 3, 1) := by decide +kernel
theorem dL_law_493 : decode cL_law 493 = .ok (.iconst 1, 1) := by decide +kernel
theorem dL_law_494 : decode cL_law 494 = .ok (.iadd, 1) := by decide +kernel
theorem dL_law_495 : decode cL_law 495 = .ok (.iaload, 1) := by decide +kernel
theorem dL_law_496 : decode cL_law 496 = .ok (.invokevirtual 68, 3) := by decide +kernel
theorem dL_law_499 : decode cL_law 499 = .ok (.lcmp, 1) := by decide +kernel
theorem dL_law_500 : decode cL_law 500 = .ok (.ifCond .eq 751, 3) := by decide +kernel
theorem dL_law_503 : decode cL_law 503 = .ok (.iconst 0, 1) := by decide +kernel
theorem dL_law_504 : decode cL_law 504 = .ok (.ireturn, 1) := by decide +kernel
theorem dL_law_505 : decode cL_law 505 = .ok (.aload_n 1, 1) := by decide +kernel
theorem dL_law_506 : decode cL_law 506 = .ok (.aload_n 0, 1) := by decide +kernel
theorem dL_law_507 : decode cL_law 507 = .ok (.iload_n 3, 1) := by decide +kernel
theorem dL_law_508 : decode cL_law 508 = .ok (.iconst 1, 1) := by decide +kernel
theorem dL_law_509 : decode cL_law 509 = .ok (.iadd, 1) := by decide +kernel
theorem dL_law_510 : decode cL_law 510 = .ok (.iaload, 1) := by decide +kernel
theorem dL_law_511 : decode cL_law 511 = .ok (.invokevirtual 69, 3) := by decide +kernel
theorem dL_law_514 : decode cL_law 514 = .ok (.aload_n 2, 1) := by decide +kernel
theorem dL_law_515 : decode cL_law 515 = .ok (.aload_n 0, 1) := by decide +kernel
theorem dL_law_516 : decode cL_law 516 = .ok (.iload_n 3, 1) := by decide +kernel
theorem dL_law_517 : decode cL_law 517 = .ok (.iconst 1, 1) := by decide +kernel
theorem dL_law_518 : decode cL_law 518 = .ok (.iadd, 1) := by decide +kernel
theorem dL_law_519 : decode cL_law 519 = .ok (.iaload, 1) := by decide +kernel
theorem dL_law_520 : decode cL_law 520 = .ok (.invokevirtual 72, 3) := by decide +kernel
theorem dL_law_523 : decode cL_law 523 = .ok (.lcmp, 1) := by decide +kernel
theorem dL_law_524 : decode cL_law 524 = .ok (.ifCond .eq 727, 3) := by decide +kernel
theorem dL_law_527 : decode cL_law 527 = .ok (.iconst 0, 1) := by decide +kernel
theorem dL_law_528 : decode cL_law 528 = .ok (.ireturn, 1) := by decide +kernel
theorem dL_law_529 : decode cL_law 529 = .ok (.aload_n 1, 1) := by decide +kernel
theorem dL_law_530 : decode cL_law 530 = .ok (.aload_n 0, 1) := by decide +kernel
theorem dL_law_531 : decode cL_law 531 = .ok (.iload_n 3, 1) := by decide +kernel
theorem dL_law_532 : decode cL_law 532 = .ok (.iconst 1, 1) := by decide +kernel
theorem dL_law_533 : decode cL_law 533 = .ok (.iadd, 1) := by decide +kernel
theorem dL_law_534 : decode cL_law 534 = .ok (.iaload, 1) := by decide +kernel
theorem dL_law_535 : decode cL_law 535 = .ok (.invokevirtual 73, 3) := by decide +kernel
theorem dL_law_538 : decode cL_law 538 = .ok (.aload_n 2, 1) := by decide +kernel
theorem dL_law_539 : decode cL_law 539 = .ok (.aload_n 0, 1) := by decide +kernel
theorem dL_law_540 : decode cL_law 540 = .ok (.iload_n 3, 1) := by decide +kernel
theorem dL_law_541 : decode cL_law 541 = .ok (.iconst 1, 1) := by decide +kernel
theorem dL_law_542 : decode cL_law 542 = .ok (.iadd, 1) := by decide +kernel
theorem dL_law_543 : decode cL_law 543 = .ok (.iaload, 1) := by decide +kernel
theorem dL_law_544 : decode cL_law 544 = .ok (.invokevirtual 76, 3) := by decide +kernel
theorem dL_law_547 : decode cL_law 547 = .ok (.lcmp, 1) := by decide +kernel
theorem dL_law_548 : decode cL_law 548 = .ok (.ifCond .eq 703, 3) := by decide +kernel
theorem dL_law_551 : decode cL_law 551 = .ok (.iconst 0, 1) := by decide +kernel
theorem dL_law_552 : decode cL_law 552 = .ok (.ireturn, 1) := by decide +kernel
theorem dL_law_553 : decode cL_law 553 = .ok (.aload_n 1, 1) := by decide +kernel
theorem dL_law_554 : decode cL_law 554 = .ok (.aload_n 0, 1) := by decide +kernel
theorem dL_law_555 : decode cL_law 555 = .ok (.iload_n 3, 1) := by decide +kernel
theorem dL_law_556 : decode cL_law 556 = .ok (.iconst 1, 1) := by decide +kernel
theorem dL_law_557 : decode cL_law 557 = .ok (.iadd, 1) := by decide +kernel
theorem dL_law_558 : decode cL_law 558 = .ok (.iaload, 1) := by decide +kernel
theorem dL_law_559 : decode cL_law 559 = .ok (.aload_n 0, 1) := by decide +kernel
theorem dL_law_560 : decode cL_law 560 = .ok (.iload_n 3, 1) := by decide +kernel
theorem dL_law_561 : decode cL_law 561 = .ok (.iconst 2, 1) := by decide +kernel
theorem dL_law_562 : decode cL_law 562 = .ok (.iadd, 1) := by decide +kernel
theorem dL_law_563 : decode cL_law 563 = .ok (.iaload, 1) := by decide +kernel
theorem dL_law_564 : decode cL_law 564 = .ok (.invokevirtual 77, 3) := by decide +kernel
theorem dL_law_567 : decode cL_law 567 = .ok (.aload_n 2, 1) := by decide +kernel
theorem dL_law_568 : decode cL_law 568 = .ok (.aload_n 0, 1) := by decide +kernel
theorem dL_law_569 : decode cL_law 569 = .ok (.iload_n 3, 1) := by decide +kernel
theorem dL_law_570 : decode cL_law 570 = .ok (.iconst 1, 1) := by decide +kernel
theorem dL_law_571 : decode cL_law 571 = .ok (.iadd, 1) := by decide +kernel
theorem dL_law_572 : decode cL_law 572 = .ok (.iaload, 1) := by decide +kernel
theorem dL_law_573 : decode cL_law 573 = .ok (.aload_n 0, 1) := by decide +kernel
theorem dL_law_574 : decode cL_law 574 = .ok (.iload_n 3, 1) := by decide +kernel
theorem dL_law_575 : decode cL_law 575 = .ok (.iconst 2, 1) := by decide +kernel
theorem dL_law_576 : decode cL_law 576 = .ok (.iadd, 1) := by decide +kernel
theorem dL_law_577 : decode cL_law 577 = .ok (.iaload, 1) := by decide +kernel
theorem dL_law_578 : decode cL_law 578 = .ok (.invokevirtual 80, 3) := by decide +kernel
theorem dL_law_581 : decode cL_law 581 = .ok (.lcmp, 1) := by decide +kernel
theorem dL_law_582 : decode cL_law 582 = .ok (.ifCond .eq 669, 3) := by decide +kernel
theorem dL_law_585 : decode cL_law 585 = .ok (.iconst 0, 1) := by decide +kernel
theorem dL_law_586 : decode cL_law 586 = .ok (.ireturn, 1) := by decide +kernel
theorem dL_law_587 : decode cL_law 587 = .ok (.aload_n 1, 1) := by decide +kernel
theorem dL_law_588 : decode cL_law 588 = .ok (.aload_n 0, 1) := by decide +kernel
theorem dL_law_589 : decode cL_law 589 = .ok (.iload_n 3, 1) := by decide +kernel
theorem dL_law_590 : decode cL_law 590 = .ok (.iconst 1, 1) := by decide +kernel
theorem dL_law_591 : decode cL_law 591 = .ok (.iadd, 1) := by decide +kernel
theorem dL_law_592 : decode cL_law 592 = .ok (.iaload, 1) := by decide +kernel
theorem dL_law_593 : decode cL_law 593 = .ok (.aload_n 0, 1) := by decide +kernel
theorem dL_law_594 : decode cL_law 594 = .ok (.iload_n 3, 1) := by decide +kernel
theorem dL_law_595 : decode cL_law 595 = .ok (.iconst 2, 1) := by decide +kernel
theorem dL_law_596 : decode cL_law 596 = .ok (.iadd, 1) := by decide +kernel
theorem dL_law_597 : decode cL_law 597 = .ok (.iaload, 1) := by decide +kernel
theorem dL_law_598 : decode cL_law 598 = .ok (.aload_n 0, 1) := by decide +kernel
theorem dL_law_599 : decode cL_law 599 = .ok (.iload_n 3, 1) := by decide +kernel
theorem dL_law_600 : decode cL_law 600 = .ok (.iconst 3, 1) := by decide +kernel
theorem dL_law_601 : decode cL_law 601 = .ok (.iadd, 1) := by decide +kernel
theorem dL_law_602 : decode cL_law 602 = .ok (.iaload, 1) := by decide +kernel
theorem dL_law_603 : decode cL_law 603 = .ok (.invokevirtual 81, 3) := by decide +kernel
theorem dL_law_606 : decode cL_law 606 = .ok (.aload_n 2, 1) := by decide +kernel
theorem dL_law_607 : decode cL_law 607 = .ok (.aload_n 0, 1) := by decide +kernel
theorem dL_law_608 : decode cL_law 608 = .ok (.iload_n 3, 1) := by decide +kernel
theorem dL_law_609 : decode cL_law 609 = .ok (.iconst 1, 1) := by decide +kernel
theorem dL_law_610 : decode cL_law 610 = .ok (.iadd, 1) := by decide +kernel
theorem dL_law_611 : decode cL_law 611 = .ok (.iaload, 1) := by decide +kernel
theorem dL_law_612 : decode cL_law 612 = .ok (.aload_n 0, 1) := by decide +kernel
theorem dL_law_613 : decode cL_law 613 = .ok (.iload_n 3, 1) := by decide +kernel
theorem dL_law_614 : decode cL_law 614 = .ok (.iconst 2, 1) := by decide +kernel
theorem dL_law_615 : decode cL_law 615 = .ok (.iadd, 1) := by decide +kernel
theorem dL_law_616 : decode cL_law 616 = .ok (.iaload, 1) := by decide +kernel
theorem dL_law_617 : decode cL_law 617 = .ok (.aload_n 0, 1) := by decide +kernel
theorem dL_law_618 : decode cL_law 618 = .ok (.iload_n 3, 1) := by decide +kernel
theorem dL_law_619 : decode cL_law 619 = .ok (.iconst 3, 1) := by decide +kernel
theorem dL_law_620 : decode cL_law 620 = .ok (.iadd, 1) := by decide +kernel
theorem dL_law_621 : decode cL_law 621 = .ok (.iaload, 1) := by decide +kernel
theorem dL_law_622 : decode cL_law 622 = .ok (.invokevirtual 85, 3) := by decide +kernel
theorem dL_law_625 : decode cL_law 625 = .ok (.lcmp, 1) := by decide +kernel
theorem dL_law_626 : decode cL_law 626 = .ok (.ifCond .eq 625, 3) := by decide +kernel
theorem dL_law_629 : decode cL_law 629 = .ok (.iconst 0, 1) := by decide +kernel
theorem dL_law_630 : decode cL_law 630 = .ok (.ireturn, 1) := by decide +kernel
theorem dL_law_631 : decode cL_law 631 = .ok (.aload_n 1, 1) := by decide +kernel
theorem dL_law_632 : decode cL_law 632 = .ok (.aload_n 0, 1) := by decide +kernel
theorem dL_law_633 : decode cL_law 633 = .ok (.iload_n 3, 1) := by decide +kernel
theorem dL_law_634 : decode cL_law 634 = .ok (.iconst 1, 1) := by decide +kernel
theorem dL_law_635 : decode cL_law 635 = .ok (.iadd, 1) := by decide +kernel
theorem dL_law_636 : decode cL_law 636 = .ok (.iaload, 1) := by decide +kernel
theorem dL_law_637 : decode cL_law 637 = .ok (.aload_n 0, 1) := by decide +kernel
theorem dL_law_638 : decode cL_law 638 = .ok (.iload_n 3, 1) := by decide +kernel
theorem dL_law_639 : decode cL_law 639 = .ok (.iconst 2, 1) := by decide +kernel
theorem dL_law_640 : decode cL_law 640 = .ok (.iadd, 1) := by decide +kernel
theorem dL_law_641 : decode cL_law 641 = .ok (.iaload, 1) := by decide +kernel
theorem dL_law_642 : decode cL_law 642 = .ok (.invokevirtual 86, 3) := by decide +kernel
theorem dL_law_645 : decode cL_law 645 = .ok (.aload_n 2, 1) := by decide +kernel
theorem dL_law_646 : decode cL_law 646 = .ok (.aload_n 0, 1) := by decide +kernel
theorem dL_law_647 : decode cL_law 647 = .ok (.iload_n 3, 1) := by decide +kernel
theorem dL_law_648 : decode cL_law 648 = .ok (.iconst 1, 1) := by decide +kernel
theorem dL_law_649 : decode cL_law 649 = .ok (.iadd, 1) := by decide +kernel
theorem dL_law_650 : decode cL_law 650 = .ok (.iaload, 1) := by decide +kernel
theorem dL_law_651 : decode cL_law 651 = .ok (.aload_n 0, 1) := by decide +kernel
theorem dL_law_652 : decode cL_law 652 = .ok (.iload_n 3, 1) := by decide +kernel
theorem dL_law_653 : decode cL_law 653 = .ok (.iconst 2, 1) := by decide +kernel
theorem dL_law_654 : decode cL_law 654 = .ok (.iadd, 1) := by decide +kernel
theorem dL_law_655 : decode cL_law 655 = .ok (.iaload, 1) := by decide +kernel
theorem dL_law_656 : decode cL_law 656 = .ok (.invokevirtual 89, 3) := by decide +kernel
theorem dL_law_659 : decode cL_law 659 = .ok (.if_icmp .eq 592, 3) := by decide +kernel
theorem dL_law_662 : decode cL_law 662 = .ok (.iconst 0, 1) := by decide +kernel
theorem dL_law_663 : decode cL_law 663 = .ok (.ireturn, 1) := by decide +kernel
theorem dL_law_664 : decode cL_law 664 = .ok (.aload_n 1, 1) := by decide +kernel
theorem dL_law_665 : decode cL_law 665 = .ok (.aload_n 0, 1) := by decide +kernel
theorem dL_law_666 : decode cL_law 666 = .ok (.iload_n 3, 1) := by decide +kernel
theorem dL_law_667 : decode cL_law 667 = .ok (.iconst 1, 1) := by decide +kernel
theorem dL_law_668 : decode cL_law 668 = .ok (.iadd, 1) := by decide +kernel
theorem dL_law_669 : decode cL_law 669 = .ok (.iaload, 1) := by decide +kernel
theorem dL_law_670 : decode cL_law 670 = .ok (.aload_n 0, 1) := by decide +kernel
theorem dL_law_671 : decode cL_law 671 = .ok (.iload_n 3, 1) := by decide +kernel
theorem dL_law_672 : decode cL_law 672 = .ok (.iconst 2, 1) := by decide +kernel
theorem dL_law_673 : decode cL_law 673 = .ok (.iadd, 1) := by decide +kernel
theorem dL_law_674 : decode cL_law 674 = .ok (.iaload, 1) := by decide +kernel
theorem dL_law_675 : decode cL_law 675 = .ok (.aload_n 0, 1) := by decide +kernel
theorem dL_law_676 : decode cL_law 676 = .ok (.iload_n 3, 1) := by decide +kernel
theorem dL_law_677 : decode cL_law 677 = .ok (.iconst 3, 1) := by decide +kernel
theorem dL_law_678 : decode cL_law 678 = .ok (.iadd, 1) := by decide +kernel
theorem dL_law_679 : decode cL_law 679 = .ok (.iaload, 1) := by decide +kernel
theorem dL_law_680 : decode cL_law 680 = .ok (.invokevirtual 90, 3) := by decide +kernel
theorem dL_law_683 : decode cL_law 683 = .ok (.aload_n 2, 1) := by decide +kernel
theorem dL_law_684 : decode cL_law 684 = .ok (.aload_n 0, 1) := by decide +kernel
theorem dL_law_685 : decode cL_law 685 = .ok (.iload_n 3, 1) := by decide +kernel
theorem dL_law_686 : decode cL_law 686 = .ok (.iconst 1, 1) := by decide +kernel
theorem dL_law_687 : decode cL_law 687 = .ok (.iadd, 1) := by decide +kernel
theorem dL_law_688 : decode cL_law 688 = .ok (.iaload, 1) := by decide +kernel
theorem dL_law_689 : decode cL_law 689 = .ok (.aload_n 0, 1) := by decide +kernel
theorem dL_law_690 : decode cL_law 690 = .ok (.iload_n 3, 1) := by decide +kernel
theorem dL_law_691 : decode cL_law 691 = .ok (.iconst 2, 1) := by decide +kernel
theorem dL_law_692 : decode cL_law 692 = .ok (.iadd, 1) := by decide +kernel
theorem dL_law_693 : decode cL_law 693 = .ok (.iaload, 1) := by decide +kernel
theorem dL_law_694 : decode cL_law 694 = .ok (.aload_n 0, 1) := by decide +kernel
theorem dL_law_695 : decode cL_law 695 = .ok (.iload_n 3, 1) := by decide +kernel
theorem dL_law_696 : decode cL_law 696 = .ok (.iconst 3, 1) := by decide +kernel
theorem dL_law_697 : decode cL_law 697 = .ok (.iadd, 1) := by decide +kernel
theorem dL_law_698 : decode cL_law 698 = .ok (.iaload, 1) := by decide +kernel
theorem dL_law_699 : decode cL_law 699 = .ok (.invokevirtual 94, 3) := by decide +kernel
theorem dL_law_702 : decode cL_law 702 = .ok (.if_icmp .eq 549, 3) := by decide +kernel
theorem dL_law_705 : decode cL_law 705 = .ok (.iconst 0, 1) := by decide +kernel
theorem dL_law_706 : decode cL_law 706 = .ok (.ireturn, 1) := by decide +kernel
theorem dL_law_707 : decode cL_law 707 = .ok (.aload_n 1, 1) := by decide +kernel
theorem dL_law_708 : decode cL_law 708 = .ok (.aload_n 0, 1) := by decide +kernel
theorem dL_law_709 : decode cL_law 709 = .ok (.iload_n 3, 1) := by decide +kernel
theorem dL_law_710 : decode cL_law 710 = .ok (.iconst 1, 1) := by decide +kernel
theorem dL_law_711 : decode cL_law 711 = .ok (.iadd, 1) := by decide +kernel
theorem dL_law_712 : decode cL_law 712 = .ok (.iaload, 1) := by decide +kernel
theorem dL_law_713 : decode cL_law 713 = .ok (.aload_n 0, 1) := by decide +kernel
theorem dL_law_714 : decode cL_law 714 = .ok (.iload_n 3, 1) := by decide +kernel
theorem dL_law_715 : decode cL_law 715 = .ok (.iconst 2, 1) := by decide +kernel
theorem dL_law_716 : decode cL_law 716 = .ok (.iadd, 1) := by decide +kernel
theorem dL_law_717 : decode cL_law 717 = .ok (.iaload, 1) := by decide +kernel
theorem dL_law_718 : decode cL_law 718 = .ok (.invokevirtual 95, 3) := by decide +kernel
theorem dL_law_721 : decode cL_law 721 = .ok (.aload_n 2, 1) := by decide +kernel
theorem dL_law_722 : decode cL_law 722 = .ok (.aload_n 0, 1) := by decide +kernel
theorem dL_law_723 : decode cL_law 723 = .ok (.iload_n 3, 1) := by decide +kernel
theorem dL_law_724 : decode cL_law 724 = .ok (.iconst 1, 1) := by decide +kernel
theorem dL_law_725 : decode cL_law 725 = .ok (.iadd, 1) := by decide +kernel
theorem dL_law_726 : decode cL_law 726 = .ok (.iaload, 1) := by decide +kernel
theorem dL_law_727 : decode cL_law 727 = .ok (.aload_n 0, 1) := by decide +kernel
theorem dL_law_728 : decode cL_law 728 = .ok (.iload_n 3, 1) := by decide +kernel
theorem dL_law_729 : decode cL_law 729 = .ok (.iconst 2, 1) := by decide +kernel
theorem dL_law_730 : decode cL_law 730 = .ok (.iadd, 1) := by decide +kernel
theorem dL_law_731 : decode cL_law 731 = .ok (.iaload, 1) := by decide +kernel
theorem dL_law_732 : decode cL_law 732 = .ok (.invokevirtual 98, 3) := by decide +kernel
theorem dL_law_735 : decode cL_law 735 = .ok (.if_icmp .eq 516, 3) := by decide +kernel
theorem dL_law_738 : decode cL_law 738 = .ok (.iconst 0, 1) := by decide +kernel
theorem dL_law_739 : decode cL_law 739 = .ok (.ireturn, 1) := by decide +kernel
theorem dL_law_740 : decode cL_law 740 = .ok (.aload_n 1, 1) := by decide +kernel
theorem dL_law_741 : decode cL_law 741 = .ok (.aload_n 0, 1) := by decide +kernel
theorem dL_law_742 : decode cL_law 742 = .ok (.iload_n 3, 1) := by decide +kernel
theorem dL_law_743 : decode cL_law 743 = .ok (.iconst 1, 1) := by decide +kernel
theorem dL_law_744 : decode cL_law 744 = .ok (.iadd, 1) := by decide +kernel
theorem dL_law_745 : decode cL_law 745 = .ok (.iaload, 1) := by decide +kernel
theorem dL_law_746 : decode cL_law 746 = .ok (.aload_n 0, 1) := by decide +kernel
theorem dL_law_747 : decode cL_law 747 = .ok (.iload_n 3, 1) := by decide +kernel
theorem dL_law_748 : decode cL_law 748 = .ok (.iconst 2, 1) := by decide +kernel
theorem dL_law_749 : decode cL_law 749 = .ok (.iadd, 1) := by decide +kernel
theorem dL_law_750 : decode cL_law 750 = .ok (.iaload, 1) := by decide +kernel
theorem dL_law_751 : decode cL_law 751 = .ok (.invokevirtual 99, 3) := by decide +kernel
theorem dL_law_754 : decode cL_law 754 = .ok (.aload_n 2, 1) := by decide +kernel
theorem dL_law_755 : decode cL_law 755 = .ok (.aload_n 0, 1) := by decide +kernel
theorem dL_law_756 : decode cL_law 756 = .ok (.iload_n 3, 1) := by decide +kernel
theorem dL_law_757 : decode cL_law 757 = .ok (.iconst 1, 1) := by decide +kernel
theorem dL_law_758 : decode cL_law 758 = .ok (.iadd, 1) := by decide +kernel
theorem dL_law_759 : decode cL_law 759 = .ok (.iaload, 1) := by decide +kernel
theorem dL_law_760 : decode cL_law 760 = .ok (.aload_n 0, 1) := by decide +kernel
theorem dL_law_761 : decode cL_law 761 = .ok (.iload_n 3, 1) := by decide +kernel
theorem dL_law_762 : decode cL_law 762 = .ok (.iconst 2, 1) := by decide +kernel
theorem dL_law_763 : decode cL_law 763 = .ok (.iadd, 1) := by decide +kernel
theorem dL_law_764 : decode cL_law 764 = .ok (.iaload, 1) := by decide +kernel
theorem dL_law_765 : decode cL_law 765 = .ok (.invokevirtual 102, 3) := by decide +kernel
theorem dL_law_768 : decode cL_law 768 = .ok (.if_icmp .eq 483, 3) := by decide +kernel
theorem dL_law_771 : decode cL_law 771 = .ok (.iconst 0, 1) := by decide +kernel
theorem dL_law_772 : decode cL_law 772 = .ok (.ireturn, 1) := by decide +kernel
theorem dL_law_773 : decode cL_law 773 = .ok (.aload_n 1, 1) := by decide +kernel
theorem dL_law_774 : decode cL_law 774 = .ok (.aload_n 0, 1) := by decide +kernel
theorem dL_law_775 : decode cL_law 775 = .ok (.iload_n 3, 1) := by decide +kernel
theorem dL_law_776 : decode cL_law 776 = .ok (.iconst 1, 1) := by decide +kernel
theorem dL_law_777 : decode cL_law 777 = .ok (.iadd, 1) := by decide +kernel
theorem dL_law_778 : decode cL_law 778 = .ok (.iaload, 1) := by decide +kernel
theorem dL_law_779 : decode cL_law 779 = .ok (.aload_n 0, 1) := by decide +kernel
theorem dL_law_780 : decode cL_law 780 = .ok (.iload_n 3, 1) := by decide +kernel
theorem dL_law_781 : decode cL_law 781 = .ok (.iconst 2, 1) := by decide +kernel
theorem dL_law_782 : decode cL_law 782 = .ok (.iadd, 1) := by decide +kernel
theorem dL_law_783 : decode cL_law 783 = .ok (.iaload, 1) := by decide +kernel
theorem dL_law_784 : decode cL_law 784 = .ok (.aload_n 0, 1) := by decide +kernel
theorem dL_law_785 : decode cL_law 785 = .ok (.iload_n 3, 1) := by decide +kernel
theorem dL_law_786 : decode cL_law 786 = .ok (.iconst 3, 1) := by decide +kernel
theorem dL_law_787 : decode cL_law 787 = .ok (.iadd, 1) := by decide +kernel
theorem dL_law_788 : decode cL_law 788 = .ok (.iaload, 1) := by decide +kernel
theorem dL_law_789 : decode cL_law 789 = .ok (.aload_n 0, 1) := by decide +kernel
theorem dL_law_790 : decode cL_law 790 = .ok (.iload_n 3, 1) := by decide +kernel
theorem dL_law_791 : decode cL_law 791 = .ok (.iconst 4, 1) := by decide +kernel
theorem dL_law_792 : decode cL_law 792 = .ok (.iadd, 1) := by decide +kernel
theorem dL_law_793 : decode cL_law 793 = .ok (.iaload, 1) := by decide +kernel
theorem dL_law_794 : decode cL_law 794 = .ok (.invokevirtual 103, 3) := by decide +kernel
theorem dL_law_797 : decode cL_law 797 = .ok (.aload_n 2, 1) := by decide +kernel
theorem dL_law_798 : decode cL_law 798 = .ok (.aload_n 0, 1) := by decide +kernel
theorem dL_law_799 : decode cL_law 799 = .ok (.iload_n 3, 1) := by decide +kernel
theorem dL_law_800 : decode cL_law 800 = .ok (.iconst 1, 1) := by decide +kernel
theorem dL_law_801 : decode cL_law 801 = .ok (.iadd, 1) := by decide +kernel
theorem dL_law_802 : decode cL_law 802 = .ok (.iaload, 1) := by decide +kernel
theorem dL_law_803 : decode cL_law 803 = .ok (.aload_n 0, 1) := by decide +kernel
theorem dL_law_804 : decode cL_law 804 = .ok (.iload_n 3, 1) := by decide +kernel
theorem dL_law_805 : decode cL_law 805 = .ok (.iconst 2, 1) := by decide +kernel
theorem dL_law_806 : decode cL_law 806 = .ok (.iadd, 1) := by decide +kernel
theorem dL_law_807 : decode cL_law 807 = .ok (.iaload, 1) := by decide +kernel
theorem dL_law_808 : decode cL_law 808 = .ok (.aload_n 0, 1) := by decide +kernel
theorem dL_law_809 : decode cL_law 809 = .ok (.iload_n 3, 1) := by decide +kernel
theorem dL_law_810 : decode cL_law 810 = .ok (.iconst 3, 1) := by decide +kernel
theorem dL_law_811 : decode cL_law 811 = .ok (.iadd, 1) := by decide +kernel
theorem dL_law_812 : decode cL_law 812 = .ok (.iaload, 1) := by decide +kernel
theorem dL_law_813 : decode cL_law 813 = .ok (.aload_n 0, 1) := by decide +kernel
theorem dL_law_814 : decode cL_law 814 = .ok (.iload_n 3, 1) := by decide +kernel
theorem dL_law_815 : decode cL_law 815 = .ok (.iconst 4, 1) := by decide +kernel
theorem dL_law_816 : decode cL_law 816 = .ok (.iadd, 1) := by decide +kernel
theorem dL_law_817 : decode cL_law 817 = .ok (.iaload, 1) := by decide +kernel
theorem dL_law_818 : decode cL_law 818 = .ok (.invokevirtual 107, 3) := by decide +kernel
theorem dL_law_821 : decode cL_law 821 = .ok (.if_icmp .eq 430, 3) := by decide +kernel
theorem dL_law_824 : decode cL_law 824 = .ok (.iconst 0, 1) := by decide +kernel
theorem dL_law_825 : decode cL_law 825 = .ok (.ireturn, 1) := by decide +kernel
theorem dL_law_826 : decode cL_law 826 = .ok (.aload_n 1, 1) := by decide +kernel
theorem dL_law_827 : decode cL_law 827 = .ok (.aload_n 0, 1) := by decide +kernel
theorem dL_law_828 : decode cL_law 828 = .ok (.iload_n 3, 1) := by decide +kernel
theorem dL_law_829 : decode cL_law 829 = .ok (.iconst 1, 1) := by decide +kernel
theorem dL_law_830 : decode cL_law 830 = .ok (.iadd, 1) := by decide +kernel
theorem dL_law_831 : decode cL_law 831 = .ok (.iaload, 1) := by decide +kernel
theorem dL_law_832 : decode cL_law 832 = .ok (.aload_n 0, 1) := by decide +kernel
theorem dL_law_833 : decode cL_law 833 = .ok (.iload_n 3, 1) := by decide +kernel
theorem dL_law_834 : decode cL_law 834 = .ok (.iconst 2, 1) := by decide +kernel
theorem dL_law_835 : decode cL_law 835 = .ok (.iadd, 1) := by decide +kernel
theorem dL_law_836 : decode cL_law 836 = .ok (.iaload, 1) := by decide +kernel
theorem dL_law_837 : decode cL_law 837 = .ok (.aload_n 0, 1) := by decide +kernel
theorem dL_law_838 : decode cL_law 838 = .ok (.iload_n 3, 1) := by decide +kernel
theorem dL_law_839 : decode cL_law 839 = .ok (.iconst 3, 1) := by decide +kernel
theorem dL_law_840 : decode cL_law 840 = .ok (.iadd, 1) := by decide +kernel
theorem dL_law_841 : decode cL_law 841 = .ok (.iaload, 1) := by decide +kernel
theorem dL_law_842 : decode cL_law 842 = .ok (.aload_n 0, 1) := by decide +kernel
theorem dL_law_843 : decode cL_law 843 = .ok (.iload_n 3, 1) := by decide +kernel
theorem dL_law_844 : decode cL_law 844 = .ok (.iconst 4, 1) := by decide +kernel
theorem dL_law_845 : decode cL_law 845 = .ok (.iadd, 1) := by decide +kernel
theorem dL_law_846 : decode cL_law 846 = .ok (.iaload, 1) := by decide +kernel
theorem dL_law_847 : decode cL_law 847 = .ok (.aload_n 0, 1) := by decide +kernel
theorem dL_law_848 : decode cL_law 848 = .ok (.iload_n 3, 1) := by decide +kernel
theorem dL_law_849 : decode cL_law 849 = .ok (.iconst 5, 1) := by decide +kernel
theorem dL_law_850 : decode cL_law 850 = .ok (.iadd, 1) := by decide +kernel
theorem dL_law_851 : decode cL_law 851 = .ok (.iaload, 1) := by decide +kernel
theorem dL_law_852 : decode cL_law 852 = .ok (.invokevirtual 108, 3) := by decide +kernel
theorem dL_law_855 : decode cL_law 855 = .ok (.aload_n 2, 1) := by decide +kernel
theorem dL_law_856 : decode cL_law 856 = .ok (.aload_n 0, 1) := by decide +kernel
theorem dL_law_857 : decode cL_law 857 = .ok (.iload_n 3, 1) := by decide +kernel
theorem dL_law_858 : decode cL_law 858 = .ok (.iconst 1, 1) := by decide +kernel
theorem dL_law_859 : decode cL_law 859 = .ok (.iadd, 1) := by decide +kernel
theorem dL_law_860 : decode cL_law 860 = .ok (.iaload, 1) := by decide +kernel
theorem dL_law_861 : decode cL_law 861 = .ok (.aload_n 0, 1) := by decide +kernel
theorem dL_law_862 : decode cL_law 862 = .ok (.iload_n 3, 1) := by decide +kernel
theorem dL_law_863 : decode cL_law 863 = .ok (.iconst 2, 1) := by decide +kernel
theorem dL_law_864 : decode cL_law 864 = .ok (.iadd, 1) := by decide +kernel
theorem dL_law_865 : decode cL_law 865 = .ok (.iaload, 1) := by decide +kernel
theorem dL_law_866 : decode cL_law 866 = .ok (.aload_n 0, 1) := by decide +kernel
theorem dL_law_867 : decode cL_law 867 = .ok (.iload_n 3, 1) := by decide +kernel
theorem dL_law_868 : decode cL_law 868 = .ok (.iconst 3, 1) := by decide +kernel
theorem dL_law_869 : decode cL_law 869 = .ok (.iadd, 1) := by decide +kernel
theorem dL_law_870 : decode cL_law 870 = .ok (.iaload, 1) := by decide +kernel
theorem dL_law_871 : decode cL_law 871 = .ok (.aload_n 0, 1) := by decide +kernel
theorem dL_law_872 : decode cL_law 872 = .ok (.iload_n 3, 1) := by decide +kernel
theorem dL_law_873 : decode cL_law 873 = .ok (.iconst 4, 1) := by decide +kernel
theorem dL_law_874 : decode cL_law 874 = .ok (.iadd, 1) := by decide +kernel
theorem dL_law_875 : decode cL_law 875 = .ok (.iaload, 1) := by decide +kernel
theorem dL_law_876 : decode cL_law 876 = .ok (.aload_n 0, 1) := by decide +kernel
theorem dL_law_877 : decode cL_law 877 = .ok (.iload_n 3, 1) := by decide +kernel
theorem dL_law_878 : decode cL_law 878 = .ok (.iconst 5, 1) := by decide +kernel
theorem dL_law_879 : decode cL_law 879 = .ok (.iadd, 1) := by decide +kernel
theorem dL_law_880 : decode cL_law 880 = .ok (.iaload, 1) := by decide +kernel
theorem dL_law_881 : decode cL_law 881 = .ok (.invokevirtual 112, 3) := by decide +kernel
theorem dL_law_884 : decode cL_law 884 = .ok (.if_icmp .eq 367, 3) := by decide +kernel
theorem dL_law_887 : decode cL_law 887 = .ok (.iconst 0, 1) := by decide +kernel
theorem dL_law_888 : decode cL_law 888 = .ok (.ireturn, 1) := by decide +kernel
theorem dL_law_889 : decode cL_law 889 = .ok (.aload_n 1, 1) := by decide +kernel
theorem dL_law_890 : decode cL_law 890 = .ok (.aload_n 0, 1) := by decide +kernel
theorem dL_law_891 : decode cL_law 891 = .ok (.iload_n 3, 1) := by decide +kernel
theorem dL_law_892 : decode cL_law 892 = .ok (.iconst 1, 1) := by decide +kernel
theorem dL_law_893 : decode cL_law 893 = .ok (.iadd, 1) := by decide +kernel
theorem dL_law_894 : decode cL_law 894 = .ok (.iaload, 1) := by decide +kernel
theorem dL_law_895 : decode cL_law 895 = .ok (.aload_n 0, 1) := by decide +kernel
theorem dL_law_896 : decode cL_law 896 = .ok (.iload_n 3, 1) := by decide +kernel
theorem dL_law_897 : decode cL_law 897 = .ok (.iconst 2, 1) := by decide +kernel
theorem dL_law_898 : decode cL_law 898 = .ok (.iadd, 1) := by decide +kernel
theorem dL_law_899 : decode cL_law 899 = .ok (.iaload, 1) := by decide +kernel
theorem dL_law_900 : decode cL_law 900 = .ok (.invokevirtual 113, 3) := by decide +kernel
theorem dL_law_903 : decode cL_law 903 = .ok (.aload_n 2, 1) := by decide +kernel
theorem dL_law_904 : decode cL_law 904 = .ok (.aload_n 0, 1) := by decide +kernel
theorem dL_law_905 : decode cL_law 905 = .ok (.iload_n 3, 1) := by decide +kernel
theorem dL_law_906 : decode cL_law 906 = .ok (.iconst 1, 1) := by decide +kernel
theorem dL_law_907 : decode cL_law 907 = .ok (.iadd, 1) := by decide +kernel
theorem dL_law_908 : decode cL_law 908 = .ok (.iaload, 1) := by decide +kernel
theorem dL_law_909 : decode cL_law 909 = .ok (.aload_n 0, 1) := by decide +kernel
theorem dL_law_910 : decode cL_law 910 = .ok (.iload_n 3, 1) := by decide +kernel
theorem dL_law_911 : decode cL_law 911 = .ok (.iconst 2, 1) := by decide +kernel
theorem dL_law_912 : decode cL_law 912 = .ok (.iadd, 1) := by decide +kernel
theorem dL_law_913 : decode cL_law 913 = .ok (.iaload, 1) := by decide +kernel
theorem dL_law_914 : decode cL_law 914 = .ok (.invokevirtual 116, 3) := by decide +kernel
theorem dL_law_917 : decode cL_law 917 = .ok (.if_icmp .eq 334, 3) := by decide +kernel
theorem dL_law_920 : decode cL_law 920 = .ok (.iconst 0, 1) := by decide +kernel
theorem dL_law_921 : decode cL_law 921 = .ok (.ireturn, 1) := by decide +kernel
theorem dL_law_922 : decode cL_law 922 = .ok (.aload_n 1, 1) := by decide +kernel
theorem dL_law_923 : decode cL_law 923 = .ok (.aload_n 0, 1) := by decide +kernel
theorem dL_law_924 : decode cL_law 924 = .ok (.iload_n 3, 1) := by decide +kernel
theorem dL_law_925 : decode cL_law 925 = .ok (.iconst 1, 1) := by decide +kernel
theorem dL_law_926 : decode cL_law 926 = .ok (.iadd, 1) := by decide +kernel
theorem dL_law_927 : decode cL_law 927 = .ok (.iaload, 1) := by decide +kernel
theorem dL_law_928 : decode cL_law 928 = .ok (.aload_n 0, 1) := by decide +kernel
theorem dL_law_929 : decode cL_law 929 = .ok (.iload_n 3, 1) := by decide +kernel
theorem dL_law_930 : decode cL_law 930 = .ok (.iconst 2, 1) := by decide +kernel
theorem dL_law_931 : decode cL_law 931 = .ok (.iadd, 1) := by decide +kernel
theorem dL_law_932 : decode cL_law 932 = .ok (.iaload, 1) := by decide +kernel
theorem dL_law_933 : decode cL_law 933 = .ok (.invokevirtual 117, 3) := by decide +kernel
theorem dL_law_936 : decode cL_law 936 = .ok (.aload_n 2, 1) := by decide +kernel
theorem dL_law_937 : decode cL_law 937 = .ok (.aload_n 0, 1) := by decide +kernel
theorem dL_law_938 : decode cL_law 938 = .ok (.iload_n 3, 1) := by decide +kernel
theorem dL_law_939 : decode cL_law 939 = .ok (.iconst 1, 1) := by decide +kernel
theorem dL_law_940 : decode cL_law 940 = .ok (.iadd, 1) := by decide +kernel
theorem dL_law_941 : decode cL_law 941 = .ok (.iaload, 1) := by decide +kernel
theorem dL_law_942 : decode cL_law 942 = .ok (.aload_n 0, 1) := by decide +kernel
theorem dL_law_943 : decode cL_law 943 = .ok (.iload_n 3, 1) := by decide +kernel
theorem dL_law_944 : decode cL_law 944 = .ok (.iconst 2, 1) := by decide +kernel
theorem dL_law_945 : decode cL_law 945 = .ok (.iadd, 1) := by decide +kernel
theorem dL_law_946 : decode cL_law 946 = .ok (.iaload, 1) := by decide +kernel
theorem dL_law_947 : decode cL_law 947 = .ok (.invokevirtual 120, 3) := by decide +kernel
theorem dL_law_950 : decode cL_law 950 = .ok (.lcmp, 1) := by decide +kernel
theorem dL_law_951 : decode cL_law 951 = .ok (.ifCond .eq 300, 3) := by decide +kernel
theorem dL_law_954 : decode cL_law 954 = .ok (.iconst 0, 1) := by decide +kernel
theorem dL_law_955 : decode cL_law 955 = .ok (.ireturn, 1) := by decide +kernel
theorem dL_law_956 : decode cL_law 956 = .ok (.aload_n 1, 1) := by decide +kernel
theorem dL_law_957 : decode cL_law 957 = .ok (.aload_n 0, 1) := by decide +kernel
theorem dL_law_958 : decode cL_law 958 = .ok (.iload_n 3, 1) := by decide +kernel
theorem dL_law_959 : decode cL_law 959 = .ok (.iconst 1, 1) := by decide +kernel
theorem dL_law_960 : decode cL_law 960 = .ok (.iadd, 1) := by decide +kernel
theorem dL_law_961 : decode cL_law 961 = .ok (.iaload, 1) := by decide +kernel
theorem dL_law_962 : decode cL_law 962 = .ok (.aload_n 0, 1) := by decide +kernel
theorem dL_law_963 : decode cL_law 963 = .ok (.iload_n 3, 1) := by decide +kernel
theorem dL_law_964 : decode cL_law 964 = .ok (.iconst 2, 1) := by decide +kernel
theorem dL_law_965 : decode cL_law 965 = .ok (.iadd, 1) := by decide +kernel
theorem dL_law_966 : decode cL_law 966 = .ok (.iaload, 1) := by decide +kernel
theorem dL_law_967 : decode cL_law 967 = .ok (.aload_n 0, 1) := by decide +kernel
theorem dL_law_968 : decode cL_law 968 = .ok (.iload_n 3, 1) := by decide +kernel
theorem dL_law_969 : decode cL_law 969 = .ok (.iconst 3, 1) := by decide +kernel
theorem dL_law_970 : decode cL_law 970 = .ok (.iadd, 1) := by decide +kernel
theorem dL_law_971 : decode cL_law 971 = .ok (.iaload, 1) := by decide +kernel
theorem dL_law_972 : decode cL_law 972 = .ok (.invokevirtual 121, 3) := by decide +kernel
theorem dL_law_975 : decode cL_law 975 = .ok (.aload_n 2, 1) := by decide +kernel
theorem dL_law_976 : decode cL_law 976 = .ok (.aload_n 0, 1) := by decide +kernel
theorem dL_law_977 : decode cL_law 977 = .ok (.iload_n 3, 1) := by decide +kernel
theorem dL_law_978 : decode cL_law 978 = .ok (.iconst 1, 1) := by decide +kernel
theorem dL_law_979 : decode cL_law 979 = .ok (.iadd, 1) := by decide +kernel
theorem dL_law_980 : decode cL_law 980 = .ok (.iaload, 1) := by decide +kernel
theorem dL_law_981 : decode cL_law 981 = .ok (.aload_n 0, 1) := by decide +kernel
theorem dL_law_982 : decode cL_law 982 = .ok (.iload_n 3, 1) := by decide +kernel
theorem dL_law_983 : decode cL_law 983 = .ok (.iconst 2, 1) := by decide +kernel
theorem dL_law_984 : decode cL_law 984 = .ok (.iadd, 1) := by decide +kernel
theorem dL_law_985 : decode cL_law 985 = .ok (.iaload, 1) := by decide +kernel
theorem dL_law_986 : decode cL_law 986 = .ok (.aload_n 0, 1) := by decide +kernel
theorem dL_law_987 : decode cL_law 987 = .ok (.iload_n 3, 1) := by decide +kernel
theorem dL_law_988 : decode cL_law 988 = .ok (.iconst 3, 1) := by decide +kernel
theorem dL_law_989 : decode cL_law 989 = .ok (.iadd, 1) := by decide +kernel
theorem dL_law_990 : decode cL_law 990 = .ok (.iaload, 1) := by decide +kernel
theorem dL_law_991 : decode cL_law 991 = .ok (.invokevirtual 124, 3) := by decide +kernel
theorem dL_law_994 : decode cL_law 994 = .ok (.lcmp, 1) := by decide +kernel
theorem dL_law_995 : decode cL_law 995 = .ok (.ifCond .eq 256, 3) := by decide +kernel
theorem dL_law_998 : decode cL_law 998 = .ok (.iconst 0, 1) := by decide +kernel
theorem dL_law_999 : decode cL_law 999 = .ok (.ireturn, 1) := by decide +kernel
theorem dL_law_1000 : decode cL_law 1000 = .ok (.aload_n 1, 1) := by decide +kernel
theorem dL_law_1001 : decode cL_law 1001 = .ok (.aload_n 0, 1) := by decide +kernel
theorem dL_law_1002 : decode cL_law 1002 = .ok (.iload_n 3, 1) := by decide +kernel
theorem dL_law_1003 : decode cL_law 1003 = .ok (.iconst 1, 1) := by decide +kernel
theorem dL_law_1004 : decode cL_law 1004 = .ok (.iadd, 1) := by decide +kernel
theorem dL_law_1005 : decode cL_law 1005 = .ok (.iaload, 1) := by decide +kernel
theorem dL_law_1006 : decode cL_law 1006 = .ok (.aload_n 0, 1) := by decide +kernel
theorem dL_law_1007 : decode cL_law 1007 = .ok (.iload_n 3, 1) := by decide +kernel
theorem dL_law_1008 : decode cL_law 1008 = .ok (.iconst 2, 1) := by decide +kernel
theorem dL_law_1009 : decode cL_law 1009 = .ok (.iadd, 1) := by decide +kernel
theorem dL_law_1010 : decode cL_law 1010 = .ok (.iaload, 1) := by decide +kernel
theorem dL_law_1011 : decode cL_law 1011 = .ok (.invokevirtual 125, 3) := by decide +kernel
theorem dL_law_1014 : decode cL_law 1014 = .ok (.aload_n 2, 1) := by decide +kernel
theorem dL_law_1015 : decode cL_law 1015 = .ok (.aload_n 0, 1) := by decide +kernel
theorem dL_law_1016 : decode cL_law 1016 = .ok (.iload_n 3, 1) := by decide +kernel
theorem dL_law_1017 : decode cL_law 1017 = .ok (.iconst 1, 1) := by decide +kernel
theorem dL_law_1018 : decode cL_law 1018 = .ok (.iadd, 1) := by decide +kernel
theorem dL_law_1019 : decode cL_law 1019 = .ok (.iaload, 1) := by decide +kernel
theorem dL_law_1020 : decode cL_law 1020 = .ok (.aload_n 0, 1) := by decide +kernel
theorem dL_law_1021 : decode cL_law 1021 = .ok (.iload_n 3, 1) := by decide +kernel
theorem dL_law_1022 : decode cL_law 1022 = .ok (.iconst 2, 1) := by decide +kernel
theorem dL_law_1023 : decode cL_law 1023 = .ok (.iadd, 1) := by decide +kernel
theorem dL_law_1024 : decode cL_law 1024 = .ok (.iaload, 1) := by decide +kernel
theorem dL_law_1025 : decode cL_law 1025 = .ok (.invokevirtual 128, 3) := by decide +kernel
theorem dL_law_1028 : decode cL_law 1028 = .ok (.if_icmp .eq 223, 3) := by decide +kernel
theorem dL_law_1031 : decode cL_law 1031 = .ok (.iconst 0, 1) := by decide +kernel
theorem dL_law_1032 : decode cL_law 1032 = .ok (.ireturn, 1) := by decide +kernel
theorem dL_law_1033 : decode cL_law 1033 = .ok (.aload_n 1, 1) := by decide +kernel
theorem dL_law_1034 : decode cL_law 1034 = .ok (.aload_n 0, 1) := by decide +kernel
theorem dL_law_1035 : decode cL_law 1035 = .ok (.iload_n 3, 1) := by decide +kernel
theorem dL_law_1036 : decode cL_law 1036 = .ok (.iconst 1, 1) := by decide +kernel
theorem dL_law_1037 : decode cL_law 1037 = .ok (.iadd, 1) := by decide +kernel
theorem dL_law_1038 : decode cL_law 1038 = .ok (.iaload, 1) := by decide +kernel
theorem dL_law_1039 : decode cL_law 1039 = .ok (.invokevirtual 129, 3) := by decide +kernel
theorem dL_law_1042 : decode cL_law 1042 = .ok (.aload_n 2, 1) := by decide +kernel
theorem dL_law_1043 : decode cL_law 1043 = .ok (.aload_n 0, 1) := by decide +kernel
theorem dL_law_1044 : decode cL_law 1044 = .ok (.iload_n 3, 1) := by decide +kernel
theorem dL_law_1045 : decode cL_law 1045 = .ok (.iconst 1, 1) := by decide +kernel
theorem dL_law_1046 : decode cL_law 1046 = .ok (.iadd, 1) := by decide +kernel
theorem dL_law_1047 : decode cL_law 1047 = .ok (.iaload, 1) := by decide +kernel
theorem dL_law_1048 : decode cL_law 1048 = .ok (.invokevirtual 132, 3) := by decide +kernel
theorem dL_law_1051 : decode cL_law 1051 = .ok (.if_icmp .eq 200, 3) := by decide +kernel
theorem dL_law_1054 : decode cL_law 1054 = .ok (.iconst 0, 1) := by decide +kernel
theorem dL_law_1055 : decode cL_law 1055 = .ok (.ireturn, 1) := by decide +kernel
theorem dL_law_1056 : decode cL_law 1056 = .ok (.aload_n 1, 1) := by decide +kernel
theorem dL_law_1057 : decode cL_law 1057 = .ok (.aload_n 0, 1) := by decide +kernel
theorem dL_law_1058 : decode cL_law 1058 = .ok (.iload_n 3, 1) := by decide +kernel
theorem dL_law_1059 : decode cL_law 1059 = .ok (.iconst 1, 1) := by decide +kernel
theorem dL_law_1060 : decode cL_law 1060 = .ok (.iadd, 1) := by decide +kernel
theorem dL_law_1061 : decode cL_law 1061 = .ok (.iaload, 1) := by decide +kernel
theorem dL_law_1062 : decode cL_law 1062 = .ok (.aload_n 0, 1) := by decide +kernel
theorem dL_law_1063 : decode cL_law 1063 = .ok (.iload_n 3, 1) := by decide +kernel
theorem dL_law_1064 : decode cL_law 1064 = .ok (.iconst 2, 1) := by decide +kernel
theorem dL_law_1065 : decode cL_law 1065 = .ok (.iadd, 1) := by decide +kernel
theorem dL_law_1066 : decode cL_law 1066 = .ok (.iaload, 1) := by decide +kernel
theorem dL_law_1067 : decode cL_law 1067 = .ok (.invokevirtual 133, 3) := by decide +kernel
theorem dL_law_1070 : decode cL_law 1070 = .ok (.aload_n 2, 1) := by decide +kernel
theorem dL_law_1071 : decode cL_law 1071 = .ok (.aload_n 0, 1) := by decide +kernel
theorem dL_law_1072 : decode cL_law 1072 = .ok (.iload_n 3, 1) := by decide +kernel
theorem dL_law_1073 : decode cL_law 1073 = .ok (.iconst 1, 1) := by decide +kernel
theorem dL_law_1074 : decode cL_law 1074 = .ok (.iadd, 1) := by decide +kernel
theorem dL_law_1075 : decode cL_law 1075 = .ok (.iaload, 1) := by decide +kernel
theorem dL_law_1076 : decode cL_law 1076 = .ok (.aload_n 0, 1) := by decide +kernel
theorem dL_law_1077 : decode cL_law 1077 = .ok (.iload_n 3, 1) := by decide +kernel
theorem dL_law_1078 : decode cL_law 1078 = .ok (.iconst 2, 1) := by decide +kernel
theorem dL_law_1079 : decode cL_law 1079 = .ok (.iadd, 1) := by decide +kernel
theorem dL_law_1080 : decode cL_law 1080 = .ok (.iaload, 1) := by decide +kernel
theorem dL_law_1081 : decode cL_law 1081 = .ok (.invokevirtual 136, 3) := by decide +kernel
theorem dL_law_1084 : decode cL_law 1084 = .ok (.if_icmp .eq 167, 3) := by decide +kernel
theorem dL_law_1087 : decode cL_law 1087 = .ok (.iconst 0, 1) := by decide +kernel
theorem dL_law_1088 : decode cL_law 1088 = .ok (.ireturn, 1) := by decide +kernel
theorem dL_law_1089 : decode cL_law 1089 = .ok (.aload_n 1, 1) := by decide +kernel
theorem dL_law_1090 : decode cL_law 1090 = .ok (.aload_n 0, 1) := by decide +kernel
theorem dL_law_1091 : decode cL_law 1091 = .ok (.iload_n 3, 1) := by decide +kernel
theorem dL_law_1092 : decode cL_law 1092 = .ok (.iconst 1, 1) := by decide +kernel
theorem dL_law_1093 : decode cL_law 1093 = .ok (.iadd, 1) := by decide +kernel
theorem dL_law_1094 : decode cL_law 1094 = .ok (.iaload, 1) := by decide +kernel
theorem dL_law_1095 : decode cL_law 1095 = .ok (.aload_n 0, 1) := by decide +kernel
theorem dL_law_1096 : decode cL_law 1096 = .ok (.iload_n 3, 1) := by decide +kernel
theorem dL_law_1097 : decode cL_law 1097 = .ok (.iconst 2, 1) := by decide +kernel
theorem dL_law_1098 : decode cL_law 1098 = .ok (.iadd, 1) := by decide +kernel
theorem dL_law_1099 : decode cL_law 1099 = .ok (.iaload, 1) := by decide +kernel
theorem dL_law_1100 : decode cL_law 1100 = .ok (.aload_n 0, 1) := by decide +kernel
theorem dL_law_1101 : decode cL_law 1101 = .ok (.iload_n 3, 1) := by decide +kernel
theorem dL_law_1102 : decode cL_law 1102 = .ok (.iconst 3, 1) := by decide +kernel
theorem dL_law_1103 : decode cL_law 1103 = .ok (.iadd, 1) := by decide +kernel
theorem dL_law_1104 : decode cL_law 1104 = .ok (.iaload, 1) := by decide +kernel
theorem dL_law_1105 : decode cL_law 1105 = .ok (.invokevirtual 137, 3) := by decide +kernel
theorem dL_law_1108 : decode cL_law 1108 = .ok (.aload_n 2, 1) := by decide +kernel
theorem dL_law_1109 : decode cL_law 1109 = .ok (.aload_n 0, 1) := by decide +kernel
theorem dL_law_1110 : decode cL_law 1110 = .ok (.iload_n 3, 1) := by decide +kernel
theorem dL_law_1111 : decode cL_law 1111 = .ok (.iconst 1, 1) := by decide +kernel
theorem dL_law_1112 : decode cL_law 1112 = .ok (.iadd, 1) := by decide +kernel
theorem dL_law_1113 : decode cL_law 1113 = .ok (.iaload, 1) := by decide +kernel
theorem dL_law_1114 : decode cL_law 1114 = .ok (.aload_n 0, 1) := by decide +kernel
theorem dL_law_1115 : decode cL_law 1115 = .ok (.iload_n 3, 1) := by decide +kernel
theorem dL_law_1116 : decode cL_law 1116 = .ok (.iconst 2, 1) := by decide +kernel
theorem dL_law_1117 : decode cL_law 1117 = .ok (.iadd, 1) := by decide +kernel
theorem dL_law_1118 : decode cL_law 1118 = .ok (.iaload, 1) := by decide +kernel
theorem dL_law_1119 : decode cL_law 1119 = .ok (.aload_n 0, 1) := by decide +kernel
theorem dL_law_1120 : decode cL_law 1120 = .ok (.iload_n 3, 1) := by decide +kernel
theorem dL_law_1121 : decode cL_law 1121 = .ok (.iconst 3, 1) := by decide +kernel
theorem dL_law_1122 : decode cL_law 1122 = .ok (.iadd, 1) := by decide +kernel
theorem dL_law_1123 : decode cL_law 1123 = .ok (.iaload, 1) := by decide +kernel
theorem dL_law_1124 : decode cL_law 1124 = .ok (.invokevirtual 140, 3) := by decide +kernel
theorem dL_law_1127 : decode cL_law 1127 = .ok (.if_icmp .eq 124, 3) := by decide +kernel
theorem dL_law_1130 : decode cL_law 1130 = .ok (.iconst 0, 1) := by decide +kernel
theorem dL_law_1131 : decode cL_law 1131 = .ok (.ireturn, 1) := by decide +kernel
theorem dL_law_1132 : decode cL_law 1132 = .ok (.aload_n 1, 1) := by decide +kernel
theorem dL_law_1133 : decode cL_law 1133 = .ok (.aload_n 0, 1) := by decide +kernel
theorem dL_law_1134 : decode cL_law 1134 = .ok (.iload_n 3, 1) := by decide +kernel
theorem dL_law_1135 : decode cL_law 1135 = .ok (.iconst 1, 1) := by decide +kernel
theorem dL_law_1136 : decode cL_law 1136 = .ok (.iadd, 1) := by decide +kernel
theorem dL_law_1137 : decode cL_law 1137 = .ok (.iaload, 1) := by decide +kernel
theorem dL_law_1138 : decode cL_law 1138 = .ok (.aload_n 0, 1) := by decide +kernel
theorem dL_law_1139 : decode cL_law 1139 = .ok (.iload_n 3, 1) := by decide +kernel
theorem dL_law_1140 : decode cL_law 1140 = .ok (.iconst 2, 1) := by decide +kernel
theorem dL_law_1141 : decode cL_law 1141 = .ok (.iadd, 1) := by decide +kernel
theorem dL_law_1142 : decode cL_law 1142 = .ok (.iaload, 1) := by decide +kernel
theorem dL_law_1143 : decode cL_law 1143 = .ok (.aload_n 0, 1) := by decide +kernel
theorem dL_law_1144 : decode cL_law 1144 = .ok (.iload_n 3, 1) := by decide +kernel
theorem dL_law_1145 : decode cL_law 1145 = .ok (.iconst 3, 1) := by decide +kernel
theorem dL_law_1146 : decode cL_law 1146 = .ok (.iadd, 1) := by decide +kernel
theorem dL_law_1147 : decode cL_law 1147 = .ok (.iaload, 1) := by decide +kernel
theorem dL_law_1148 : decode cL_law 1148 = .ok (.invokevirtual 141, 3) := by decide +kernel
theorem dL_law_1151 : decode cL_law 1151 = .ok (.aload_n 2, 1) := by decide +kernel
theorem dL_law_1152 : decode cL_law 1152 = .ok (.aload_n 0, 1) := by decide +kernel
theorem dL_law_1153 : decode cL_law 1153 = .ok (.iload_n 3, 1) := by decide +kernel
theorem dL_law_1154 : decode cL_law 1154 = .ok (.iconst 1, 1) := by decide +kernel
theorem dL_law_1155 : decode cL_law 1155 = .ok (.iadd, 1) := by decide +kernel
theorem dL_law_1156 : decode cL_law 1156 = .ok (.iaload, 1) := by decide +kernel
theorem dL_law_1157 : decode cL_law 1157 = .ok (.aload_n 0, 1) := by decide +kernel
theorem dL_law_1158 : decode cL_law 1158 = .ok (.iload_n 3, 1) := by decide +kernel
theorem dL_law_1159 : decode cL_law 1159 = .ok (.iconst 2, 1) := by decide +kernel
theorem dL_law_1160 : decode cL_law 1160 = .ok (.iadd, 1) := by decide +kernel
theorem dL_law_1161 : decode cL_law 1161 = .ok (.iaload, 1) := by decide +kernel
theorem dL_law_1162 : decode cL_law 1162 = .ok (.aload_n 0, 1) := by decide +kernel
theorem dL_law_1163 : decode cL_law 1163 = .ok (.iload_n 3, 1) := by decide +kernel
theorem dL_law_1164 : decode cL_law 1164 = .ok (.iconst 3, 1) := by decide +kernel
theorem dL_law_1165 : decode cL_law 1165 = .ok (.iadd, 1) := by decide +kernel
theorem dL_law_1166 : decode cL_law 1166 = .ok (.iaload, 1) := by decide +kernel
theorem dL_law_1167 : decode cL_law 1167 = .ok (.invokevirtual 144, 3) := by decide +kernel
theorem dL_law_1170 : decode cL_law 1170 = .ok (.if_icmp .eq 81, 3) := by decide +kernel
theorem dL_law_1173 : decode cL_law 1173 = .ok (.iconst 0, 1) := by decide +kernel
theorem dL_law_1174 : decode cL_law 1174 = .ok (.ireturn, 1) := by decide +kernel
theorem dL_law_1175 : decode cL_law 1175 = .ok (.aload_n 1, 1) := by decide +kernel
theorem dL_law_1176 : decode cL_law 1176 = .ok (.aload_n 0, 1) := by decide +kernel
theorem dL_law_1177 : decode cL_law 1177 = .ok (.iload_n 3, 1) := by decide +kernel
theorem dL_law_1178 : decode cL_law 1178 = .ok (.iconst 1, 1) := by decide +kernel
theorem dL_law_1179 : decode cL_law 1179 = .ok (.iadd, 1) := by decide +kernel
theorem dL_law_1180 : decode cL_law 1180 = .ok (.iaload, 1) := by decide +kernel
theorem dL_law_1181 : decode cL_law 1181 = .ok (.aload_n 0, 1) := by decide +kernel
theorem dL_law_1182 : decode cL_law 1182 = .ok (.iload_n 3, 1) := by decide +kernel
theorem dL_law_1183 : decode cL_law 1183 = .ok (.iconst 2, 1) := by decide +kernel
theorem dL_law_1184 : decode cL_law 1184 = .ok (.iadd, 1) := by decide +kernel
theorem dL_law_1185 : decode cL_law 1185 = .ok (.iaload, 1) := by decide +kernel
theorem dL_law_1186 : decode cL_law 1186 = .ok (.aload_n 0, 1) := by decide +kernel
theorem dL_law_1187 : decode cL_law 1187 = .ok (.iload_n 3, 1) := by decide +kernel
theorem dL_law_1188 : decode cL_law 1188 = .ok (.iconst 3, 1) := by decide +kernel
theorem dL_law_1189 : decode cL_law 1189 = .ok (.iadd, 1) := by decide +kernel
theorem dL_law_1190 : decode cL_law 1190 = .ok (.iaload, 1) := by decide +kernel
theorem dL_law_1191 : decode cL_law 1191 = .ok (.aload_n 0, 1) := by decide +kernel
theorem dL_law_1192 : decode cL_law 1192 = .ok (.iload_n 3, 1) := by decide +kernel
theorem dL_law_1193 : decode cL_law 1193 = .ok (.iconst 4, 1) := by decide +kernel
theorem dL_law_1194 : decode cL_law 1194 = .ok (.iadd, 1) := by decide +kernel
theorem dL_law_1195 : decode cL_law 1195 = .ok (.iaload, 1) := by decide +kernel
theorem dL_law_1196 : decode cL_law 1196 = .ok (.invokevirtual 145, 3) := by decide +kernel
theorem dL_law_1199 : decode cL_law 1199 = .ok (.aload_n 2, 1) := by decide +kernel
theorem dL_law_1200 : decode cL_law 1200 = .ok (.aload_n 0, 1) := by decide +kernel
theorem dL_law_1201 : decode cL_law 1201 = .ok (.iload_n 3, 1) := by decide +kernel
theorem dL_law_1202 : decode cL_law 1202 = .ok (.iconst 1, 1) := by decide +kernel
theorem dL_law_1203 : decode cL_law 1203 = .ok (.iadd, 1) := by decide +kernel
theorem dL_law_1204 : decode cL_law 1204 = .ok (.iaload, 1) := by decide +kernel
theorem dL_law_1205 : decode cL_law 1205 = .ok (.aload_n 0, 1) := by decide +kernel
theorem dL_law_1206 : decode cL_law 1206 = .ok (.iload_n 3, 1) := by decide +kernel
theorem dL_law_1207 : decode cL_law 1207 = .ok (.iconst 2, 1) := by decide +kernel
theorem dL_law_1208 : decode cL_law 1208 = .ok (.iadd, 1) := by decide +kernel
theorem dL_law_1209 : decode cL_law 1209 = .ok (.iaload, 1) := by decide +kernel
theorem dL_law_1210 : decode cL_law 1210 = .ok (.aload_n 0, 1) := by decide +kernel
theorem dL_law_1211 : decode cL_law 1211 = .ok (.iload_n 3, 1) := by decide +kernel
theorem dL_law_1212 : decode cL_law 1212 = .ok (.iconst 3, 1) := by decide +kernel
theorem dL_law_1213 : decode cL_law 1213 = .ok (.iadd, 1) := by decide +kernel
theorem dL_law_1214 : decode cL_law 1214 = .ok (.iaload, 1) := by decide +kernel
theorem dL_law_1215 : decode cL_law 1215 = .ok (.aload_n 0, 1) := by decide +kernel
theorem dL_law_1216 : decode cL_law 1216 = .ok (.iload_n 3, 1) := by decide +kernel
theorem dL_law_1217 : decode cL_law 1217 = .ok (.iconst 4, 1) := by decide +kernel
theorem dL_law_1218 : decode cL_law 1218 = .ok (.iadd, 1) := by decide +kernel
theorem dL_law_1219 : decode cL_law 1219 = .ok (.iaload, 1) := by decide +kernel
theorem dL_law_1220 : decode cL_law 1220 = .ok (.invokevirtual 148, 3) := by decide +kernel
theorem dL_law_1223 : decode cL_law 1223 = .ok (.if_icmp .eq 28, 3) := by decide +kernel
theorem dL_law_1226 : decode cL_law 1226 = .ok (.iconst 0, 1) := by decide +kernel
theorem dL_law_1227 : decode cL_law 1227 = .ok (.ireturn, 1) := by decide +kernel
theorem dL_law_1228 : decode cL_law 1228 = .ok (.aload_n 1, 1) := by decide +kernel
theorem dL_law_1229 : decode cL_law 1229 = .ok (.aload_n 0, 1) := by decide +kernel
theorem dL_law_1230 : decode cL_law 1230 = .ok (.iload_n 3, 1) := by decide +kernel
theorem dL_law_1231 : decode cL_law 1231 = .ok (.iconst 1, 1) := by decide +kernel
theorem dL_law_1232 : decode cL_law 1232 = .ok (.iadd, 1) := by decide +kernel
theorem dL_law_1233 : decode cL_law 1233 = .ok (.iaload, 1) := by decide +kernel
theorem dL_law_1234 : decode cL_law 1234 = .ok (.invokevirtual 149, 3) := by decide +kernel
theorem dL_law_1237 : decode cL_law 1237 = .ok (.aload_n 2, 1) := by decide +kernel
theorem dL_law_1238 : decode cL_law 1238 = .ok (.aload_n 0, 1) := by decide +kernel
theorem dL_law_1239 : decode cL_law 1239 = .ok (.iload_n 3, 1) := by decide +kernel
theorem dL_law_1240 : decode cL_law 1240 = .ok (.iconst 1, 1) := by decide +kernel
theorem dL_law_1241 : decode cL_law 1241 = .ok (.iadd, 1) := by decide +kernel
theorem dL_law_1242 : decode cL_law 1242 = .ok (.iaload, 1) := by decide +kernel
theorem dL_law_1243 : decode cL_law 1243 = .ok (.invokevirtual 152, 3) := by decide +kernel
theorem dL_law_1246 : decode cL_law 1246 = .ok (.if_icmp .eq 5, 3) := by decide +kernel
theorem dL_law_1249 : decode cL_law 1249 = .ok (.iconst 0, 1) := by decide +kernel
theorem dL_law_1250 : decode cL_law 1250 = .ok (.ireturn, 1) := by decide +kernel
theorem dL_law_1251 : decode cL_law 1251 = .ok (.iinc 3 6, 3) := by decide +kernel
theorem dL_law_1254 : decode cL_law 1254 = .ok (.goto (-1236), 3) := by decide +kernel
theorem dL_law_1257 : decode cL_law 1257 = .ok (.iconst 1, 1) := by decide +kernel
theorem dL_law_1258 : decode cL_law 1258 = .ok (.ireturn, 1) := by decide +kernel
