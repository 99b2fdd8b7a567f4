theorem dX6_onRound_3 : decode cX6_onRound 3 = .ok (.ishl, 1) := by decide +kernel
theorem dX6_onRound_4 : decode cX6_onRound 4 = .ok (.iload_n 1, 1) := by decide +kernel
theorem dX6_onRound_5 : decode cX6_onRound 5 = .ok (.invokestatic 18, 3) := by decide +kernel
theorem dX6_onRound_8 : decode cX6_onRound 8 = .ok (.ireturn, 1) := by decide +kernel
theorem dX6_roundLength_0 : decode cX6_roundLength 0 = .ok (.iload_n 0, 1) := by decide +kernel
theorem dX6_roundLength_1 : decode cX6_roundLength 1 = .ok (.iload_n 1, 1) := by decide +kernel
theorem dX6_roundLength_2 : decode cX6_roundLength 2 = .ok (.invokestatic 22, 3) := by decide +kernel
theorem dX6_roundLength_5 : decode cX6_roundLength 5 = .ok (.istore_n 2, 1) := by decide +kernel
theorem dX6_roundLength_6 : decode cX6_roundLength 6 = .ok (.iload_n 2, 1) := by decide +kernel
theorem dX6_roundLength_7 : decode cX6_roundLength 7 = .ok (.iload_n 1, 1) := by decide +kernel
theorem dX6_roundLength_8 : decode cX6_roundLength 8 = .ok (.invokestatic 15, 3) := by decide +kernel
theorem dX6_roundLength_11 : decode cX6_roundLength 11 = .ok (.istore_n 3, 1) := by decide +kernel
theorem dX6_roundLength_12 : decode cX6_roundLength 12 = .ok (.iconst 1, 1) := by decide +kernel
theorem dX6_roundLength_13 : decode cX6_roundLength 13 = .ok (.istore 4, 2) := by decide +kernel
theorem dX6_roundLength_15 : decode cX6_roundLength 15 = .ok (.iconst 0, 1) := by decide +kernel
theorem dX6_roundLength_16 : decode cX6_roundLength 16 = .ok (.istore 5, 2) := by decide +kernel
theorem dX6_roundLength_18 : decode cX6_roundLength 18 = .ok (.iload 5, 2) := by decide +kernel
theorem dX6_roundLength_20 : decode cX6_roundLength 20 = .ok (.iconst 1, 1) := by decide +kernel
theorem dX6_roundLength_21 : decode cX6_roundLength 21 = .ok (.iload_n 1, 1) := by decide +kernel
theorem dX6_roundLength_22 : decode cX6_roundLength 22 = .ok (.ishl, 1) := by decide +kernel
theorem dX6_roundLength_23 : decode cX6_roundLength 23 = .ok (.if_icmp .ge 23, 3) := by decide +kernel
theorem dX6_roundLength_26 : decode cX6_roundLength 26 = .ok (.iload_n 3, 1) := by decide +kernel
theorem dX6_roundLength_27 : decode cX6_roundLength 27 = .ok (.iload_n 2, 1) := by decide +kernel
theorem dX6_roundLength_28 : decode cX6_roundLength 28 = .ok (.if_icmp .eq 18, 3) := by decide +kernel
theorem dX6_roundLength_31 : decode cX6_roundLength 31 = .ok (.iload_n 3, 1) := by decide +kernel
theorem dX6_roundLength_32 : decode cX6_roundLength 32 = .ok (.iload_n 1, 1) := by decide +kernel
theorem dX6_roundLength_33 : decode cX6_roundLength 33 = .ok (.invokestatic 15, 3) := by decide +kernel
theorem dX6_roundLength_36 : decode cX6_roundLength 36 = .ok (.istore_n 3, 1) := by decide +kernel
theorem dX6_roundLength_37 : decode cX6_roundLength 37 = .ok (.iinc 4 1, 3) := by decide +kernel
theorem dX6_roundLength_40 : decode cX6_roundLength 40 = .ok (.iinc 5 1, 3) := by decide +kernel
theorem dX6_roundLength_43 : decode cX6_roundLength 43 = .ok (.goto (-25), 3) := by decide +kernel
theorem dX6_roundLength_46 : decode cX6_roundLength 46 = .ok (.iload 4, 2) := by decide +kernel
theorem dX6_roundLength_48 : decode cX6_roundLength 48 = .ok (.ireturn, 1) := by decide +kernel
theorem dX6_tailLength_0 : decode cX6_tailLength 0 = .ok (.iload_n 0, 1) := by decide +kernel
theorem dX6_tailLength_1 : decode cX6_tailLength 1 = .ok (.istore_n 2, 1) := by decide +kernel
theorem dX6_tailLength_2 : decode cX6_tailLength 2 = .ok (.iload_n 0, 1) := by decide +kernel
theorem dX6_tailLength_3 : decode cX6_tailLength 3 = .ok (.iload_n 0, 1) := by decide +kernel
theorem dX6_tailLength_4 : decode cX6_tailLength 4 = .ok (.iload_n 1, 1) := by decide +kernel
theorem dX6_tailLength_5 : decode cX6_tailLength 5 = .ok (.invokestatic 25, 3) := by decide +kernel
theorem dX6_tailLength_8 : decode cX6_tailLength 8 = .ok (.iload_n 1, 1) := by decide +kernel
theorem dX6_tailLength_9 : decode cX6_tailLength 9 = .ok (.invokestatic 18, 3) := by decide +kernel
theorem dX6_tailLength_12 : decode cX6_tailLength 12 = .ok (.istore_n 3, 1) := by decide +kernel
theorem dX6_tailLength_13 : decode cX6_tailLength 13 = .ok (.iconst 0, 1) := by decide +kernel
theorem dX6_tailLength_14 : decode cX6_tailLength 14 = .ok (.istore 4, 2) := by decide +kernel
theorem dX6_tailLength_16 : decode cX6_tailLength 16 = .ok (.iconst 0, 1) := by decide +kernel
theorem dX6_tailLength_17 : decode cX6_tailLength 17 = .ok (.istore 5, 2) := by decide +kernel
theorem dX6_tailLength_19 : decode cX6_tailLength 19 = .ok (.iload 5, 2) := by decide +kernel
theorem dX6_tailLength_21 : decode cX6_tailLength 21 = .ok (.iconst 1, 1) := by decide +kernel
theorem dX6_tailLength_22 : decode cX6_tailLength 22 = .ok (.iload_n 1, 1) := by decide +kernel
theorem dX6_tailLength_23 : decode cX6_tailLength 23 = .ok (.ishl, 1) := by decide +kernel
theorem dX6_tailLength_24 : decode cX6_tailLength 24 = .ok (.if_icmp .ge 29, 3) := by decide +kernel
theorem dX6_tailLength_27 : decode cX6_tailLength 27 = .ok (.iload_n 2, 1) := by decide +kernel
theorem dX6_tailLength_28 : decode cX6_tailLength 28 = .ok (.iload_n 3, 1) := by decide +kernel
theorem dX6_tailLength_29 : decode cX6_tailLength 29 = .ok (.if_icmp .eq 24, 3) := by decide +kernel
theorem dX6_tailLength_32 : decode cX6_tailLength 32 = .ok (.iload_n 2, 1) := by decide +kernel
theorem dX6_tailLength_33 : decode cX6_tailLength 33 = .ok (.iload_n 1, 1) := by decide +kernel
theorem dX6_tailLength_34 : decode cX6_tailLength 34 = .ok (.invokestatic 15, 3) := by decide +kernel
theorem dX6_tailLength_37 : decode cX6_tailLength 37 = .ok (.istore_n 2, 1) := by decide +kernel
theorem dX6_tailLength_38 : decode cX6_tailLength 38 = .ok (.iload_n 3, 1) := by decide +kernel
theorem dX6_tailLength_39 : decode cX6_tailLength 39 = .ok (.iload_n 1, 1) := by decide +kernel
theorem dX6_tailLength_40 : decode cX6_tailLength 40 = .ok (.invokestatic 15, 3) := by decide +kernel
theorem dX6_tailLength_43 : decode cX6_tailLength 43 = .ok (.istore_n 3, 1) := by decide +kernel
theorem dX6_tailLength_44 : decode cX6_tailLength 44 = .ok (.iinc 4 1, 3) := by decide +kernel
theorem dX6_tailLength_47 : decode cX6_tailLength 47 = .ok (.iinc 5 1, 3) := by decide +kernel
theorem dX6_tailLength_50 : decode cX6_tailLength 50 = .ok (.goto (-31), 3) := by decide +kernel
theorem dX6_tailLength_53 : decode cX6_tailLength 53 = .ok (.iload 4, 2) := by decide +kernel
theorem dX6_tailLength_55 : decode cX6_tailLength 55 = .ok (.ireturn, 1) := by decide +kernel
theorem dX6_roundHops_0 : decode cX6_roundHops 0 = .ok (.iload_n 0, 1) := by decide +kernel
theorem dX6_roundHops_1 : decode cX6_roundHops 1 = .ok (.iload_n 1, 1) := by decide +kernel
theorem dX6_roundHops_2 : decode cX6_roundHops 2 = .ok (.invokestatic 22, 3) := by decide +kernel
theorem dX6_roundHops_5 : decode cX6_roundHops 5 = .ok (.istore_n 2, 1) := by decide +kernel
theorem dX6_roundHops_6 : decode cX6_roundHops 6 = .ok (.iload_n 0, 1) := by decide +kernel
theorem dX6_roundHops_7 : decode cX6_roundHops 7 = .ok (.iload_n 1, 1) := by decide +kernel
theorem dX6_roundHops_8 : decode cX6_roundHops 8 = .ok (.invokestatic 25, 3) := by decide +kernel
theorem dX6_roundHops_11 : decode cX6_roundHops 11 = .ok (.istore_n 3, 1) := by decide +kernel
theorem dX6_roundHops_12 : decode cX6_roundHops 12 = .ok (.iconst 0, 1) := by decide +kernel
theorem dX6_roundHops_13 : decode cX6_roundHops 13 = .ok (.istore 4, 2) := by decide +kernel
theorem dX6_roundHops_15 : decode cX6_roundHops 15 = .ok (.iconst 0, 1) := by decide +kernel
theorem dX6_roundHops_16 : decode cX6_roundHops 16 = .ok (.istore 5, 2) := by decide +kernel
theorem dX6_roundHops_18 : decode cX6_roundHops 18 = .ok (.iload 5, 2) := by decide +kernel
theorem dX6_roundHops_20 : decode cX6_roundHops 20 = .ok (.iload_n 3, 1) := by decide +kernel
theorem dX6_roundHops_21 : decode cX6_roundHops 21 = .ok (.if_icmp .ge 28, 3) := by decide +kernel
theorem dX6_roundHops_24 : decode cX6_roundHops 24 = .ok (.iload 4, 2) := by decide +kernel
theorem dX6_roundHops_26 : decode cX6_roundHops 26 = .ok (.iload_n 2, 1) := by decide +kernel
theorem dX6_roundHops_27 : decode cX6_roundHops 27 = .ok (.iload_n 1, 1) := by decide +kernel
theorem dX6_roundHops_28 : decode cX6_roundHops 28 = .ok (.invokestatic 9, 3) := by decide +kernel
theorem dX6_roundHops_31 : decode cX6_roundHops 31 = .ok (.invokestatic 28, 3) := by decide +kernel
theorem dX6_roundHops_34 : decode cX6_roundHops 34 = .ok (.iadd, 1) := by decide +kernel
theorem dX6_roundHops_35 : decode cX6_roundHops 35 = .ok (.istore 4, 2) := by decide +kernel
theorem dX6_roundHops_37 : decode cX6_roundHops 37 = .ok (.iload_n 2, 1) := by decide +kernel
theorem dX6_roundHops_38 : decode cX6_roundHops 38 = .ok (.iload_n 1, 1) := by decide +kernel
theorem dX6_roundHops_39 : decode cX6_roundHops 39 = .ok (.invokestatic 15, 3) := by decide +kernel
theorem dX6_roundHops_42 : decode cX6_roundHops 42 = .ok (.istore_n 2, 1) := by decide +kernel
theorem dX6_roundHops_43 : decode cX6_roundHops 43 = .ok (.iinc 5 1, 3) := by decide +kernel
theorem dX6_roundHops_46 : decode cX6_roundHops 46 = .ok (.goto (-28), 3) := by decide +kernel
theorem dX6_roundHops_49 : decode cX6_roundHops 49 = .ok (.iload 4, 2) := by decide +kernel
theorem dX6_roundHops_51 : decode cX6_roundHops 51 = .ok (.ireturn, 1) := by decide +kernel
theorem dX6_leadOn_0 : decode cX6_leadOn 0 = .ok (.iload_n 0, 1) := by decide +kernel
theorem dX6_leadOn_1 : decode cX6_leadOn 1 = .ok (.ldc 34, 2) := by decide +kernel
theorem dX6_leadOn_3 : decode cX6_leadOn 3 = .ok (.imul, 1) := by decide +kernel
theorem dX6_leadOn_4 : decode cX6_leadOn 4 = .ok (.sipush 12345, 3) := by decide +kernel
theorem dX6_leadOn_7 : decode cX6_leadOn 7 = .ok (.iadd, 1) := by decide +kernel
theorem dX6_leadOn_8 : decode cX6_leadOn 8 = .ok (.ireturn, 1) := by decide +kernel
theorem dX6_draw_0 : decode cX6_draw 0 = .ok (.iload_n 1, 1) := by decide +kernel
theorem dX6_draw_1 : decode cX6_draw 1 = .ok (.ifCond .le 16, 3) := by decide +kernel
theorem dX6_draw_4 : decode cX6_draw 4 = .ok (.iload_n 0, 1) := by decide +kernel
theorem dX6_draw_5 : decode cX6_draw 5 = .ok (.bipush 16, 2) := by decide +kernel
theorem dX6_draw_7 : decode cX6_draw 7 = .ok (.iushr, 1) := by decide +kernel
theorem dX6_draw_8 : decode cX6_draw 8 = .ok (.sipush 32767, 3) := by decide +kernel
theorem dX6_draw_11 : decode cX6_draw 11 = .ok (.iand, 1) := by decide +kernel
theorem dX6_draw_12 : decode cX6_draw 12 = .ok (.iload_n 1, 1) := by decide +kernel
theorem dX6_draw_13 : decode cX6_draw 13 = .ok (.irem, 1) := by decide +kernel
theorem dX6_draw_14 : decode cX6_draw 14 = .ok (.goto 4, 3) := by decide +kernel
theorem dX6_draw_17 : decode cX6_draw 17 = .ok (.iconst 0, 1) := by decide +kernel
theorem dX6_draw_18 : decode cX6_draw 18 = .ok (.ireturn, 1) := by decide +kernel
theorem dX6_tick_0 : decode cX6_tick 0 = .ok (.iload_n 0, 1) := by decide +kernel
theorem dX6_tick_1 : decode cX6_tick 1 = .ok (.iload_n 2, 1) := by decide +kernel
theorem dX6_tick_2 : decode cX6_tick 2 = .ok (.invokestatic 9, 3) := by decide +kernel
theorem dX6_tick_5 : decode cX6_tick 5 = .ok (.iconst 1, 1) := by decide +kernel
theorem dX6_tick_6 : decode cX6_tick 6 = .ok (.iload_n 1, 1) := by decide +kernel
theorem dX6_tick_7 : decode cX6_tick 7 = .ok (.iload_n 2, 1) := by decide +kernel
theorem dX6_tick_8 : decode cX6_tick 8 = .ok (.invokestatic 35, 3) := by decide +kernel
theorem dX6_tick_11 : decode cX6_tick 11 = .ok (.ishl, 1) := by decide +kernel
theorem dX6_tick_12 : decode cX6_tick 12 = .ok (.iand, 1) := by decide +kernel
theorem dX6_tick_13 : decode cX6_tick 13 = .ok (.istore_n 3, 1) := by decide +kernel
theorem dX6_tick_14 : decode cX6_tick 14 = .ok (.iload_n 3, 1) := by decide +kernel
theorem dX6_tick_15 : decode cX6_tick 15 = .ok (.iconst 1, 1) := by decide +kernel
theorem dX6_tick_16 : decode cX6_tick 16 = .ok (.ishl, 1) := by decide +kernel
theorem dX6_tick_17 : decode cX6_tick 17 = .ok (.iload_n 3, 1) := by decide +kernel
theorem dX6_tick_18 : decode cX6_tick 18 = .ok (.iload_n 2, 1) := by decide +kernel
theorem dX6_tick_19 : decode cX6_tick 19 = .ok (.iconst 1, 1) := by decide +kernel
theorem dX6_tick_20 : decode cX6_tick 20 = .ok (.isub, 1) := by decide +kernel
theorem dX6_tick_21 : decode cX6_tick 21 = .ok (.ishr, 1) := by decide +kernel
theorem dX6_tick_22 : decode cX6_tick 22 = .ok (.ior, 1) := by decide +kernel
theorem dX6_tick_23 : decode cX6_tick 23 = .ok (.iconst 1, 1) := by decide +kernel
theorem dX6_tick_24 : decode cX6_tick 24 = .ok (.iload_n 2, 1) := by decide +kernel
theorem dX6_tick_25 : decode cX6_tick 25 = .ok (.ishl, 1) := by decide +kernel
theorem dX6_tick_26 : decode cX6_tick 26 = .ok (.iconst 1, 1) := by decide +kernel
theorem dX6_tick_27 : decode cX6_tick 27 = .ok (.isub, 1) := by decide +kernel
theorem dX6_tick_28 : decode cX6_tick 28 = .ok (.iand, 1) := by decide +kernel
theorem dX6_tick_29 : decode cX6_tick 29 = .ok (.istore 4, 2) := by decide +kernel
theorem dX6_tick_31 : decode cX6_tick 31 = .ok (.iload_n 0, 1) := by decide +kernel
theorem dX6_tick_32 : decode cX6_tick 32 = .ok (.iload_n 3, 1) := by decide +kernel
theorem dX6_tick_33 : decode cX6_tick 33 = .ok (.iconst (-1), 1) := by decide +kernel
theorem dX6_tick_34 : decode cX6_tick 34 = .ok (.ixor, 1) := by decide +kernel
theorem dX6_tick_35 : decode cX6_tick 35 = .ok (.iand, 1) := by decide +kernel
theorem dX6_tick_36 : decode cX6_tick 36 = .ok (.iload 4, 2) := by decide +kernel
theorem dX6_tick_38 : decode cX6_tick 38 = .ok (.ior, 1) := by decide +kernel
theorem dX6_tick_39 : decode cX6_tick 39 = .ok (.ireturn, 1) := by decide +kernel
theorem dX6_drawn_0 : decode cX6_drawn 0 = .ok (.iload_n 0, 1) := by decide +kernel
theorem dX6_drawn_1 : decode cX6_drawn 1 = .ok (.istore 4, 2) := by decide +kernel
theorem dX6_drawn_3 : decode cX6_drawn 3 = .ok (.iload_n 1, 1) := by decide +kernel
theorem dX6_drawn_4 : decode cX6_drawn 4 = .ok (.istore 5, 2) := by decide +kernel
theorem dX6_drawn_6 : decode cX6_drawn 6 = .ok (.iconst 0, 1) := by decide +kernel
theorem dX6_drawn_7 : decode cX6_drawn 7 = .ok (.istore 6, 2) := by decide +kernel
theorem dX6_drawn_9 : decode cX6_drawn 9 = .ok (.iload 6, 2) := by decide +kernel
theorem dX6_drawn_11 : decode cX6_drawn 11 = .ok (.iload_n 2, 1) := by decide +kernel
theorem dX6_drawn_12 : decode cX6_drawn 12 = .ok (.if_icmp .ge 26, 3) := by decide +kernel
theorem dX6_drawn_15 : decode cX6_drawn 15 = .ok (.iload 5, 2) := by decide +kernel
theorem dX6_drawn_17 : decode cX6_drawn 17 = .ok (.invokestatic 38, 3) := by decide +kernel
theorem dX6_drawn_20 : decode cX6_drawn 20 = .ok (.istore 5, 2) := by decide +kernel
theorem dX6_drawn_22 : decode cX6_drawn 22 = .ok (.iload 4, 2) := by decide +kernel
theorem dX6_drawn_24 : decode cX6_drawn 24 = .ok (.iload 5, 2) := by decide +kernel
theorem dX6_drawn_26 : decode cX6_drawn 26 = .ok (.iload_n 3, 1) := by decide +kernel
theorem dX6_drawn_27 : decode cX6_drawn 27 = .ok (.invokestatic 41, 3) := by decide +kernel
theorem dX6_drawn_30 : decode cX6_drawn 30 = .ok (.istore 4, 2) := by decide +kernel
theorem dX6_drawn_32 : decode cX6_drawn 32 = .ok (.iinc 6 1, 3) := by decide +kernel
theorem dX6_drawn_35 : decode cX6_drawn 35 = .ok (.goto (-26), 3) := by decide +kernel
theorem dX6_drawn_38 : decode cX6_drawn 38 = .ok (.iload 4, 2) := by decide +kernel
theorem dX6_drawn_40 : decode cX6_drawn 40 = .ok (.ireturn, 1) := by decide +kernel
theorem dX6_drawnHops_0 : decode cX6_drawnHops 0 = .ok (.iload_n 0, 1) := by decide +kernel
theorem dX6_drawnHops_1 : decode cX6_drawnHops 1 = .ok (.istore 4, 2) := by decide +kernel
theorem dX6_drawnHops_3 : decode cX6_drawnHops 3 = .ok (.iload_n 1, 1) := by decide +kernel
theorem dX6_drawnHops_4 : decode cX6_drawnHops 4 = .ok (.istore 5, 2) := by decide +kernel
theorem dX6_drawnHops_6 : decode cX6_drawnHops 6 = .ok (.iconst 0, 1) := by decide +kernel
theorem dX6_drawnHops_7 : decode cX6_drawnHops 7 = .ok (.istore 6, 2) := by decide +kernel
theorem dX6_drawnHops_9 : decode cX6_drawnHops 9 = .ok (.iconst 0, 1) := by decide +kernel
theorem dX6_drawnHops_10 : decode cX6_drawnHops 10 = .ok (.istore 7, 2) := by decide +kernel
theorem dX6_drawnHops_12 : decode cX6_drawnHops 12 = .ok (.iload 7, 2) := by decide +kernel
theorem dX6_drawnHops_14 : decode cX6_drawnHops 14 = .ok (.iload_n 2, 1) := by decide +kernel
theorem dX6_drawnHops_15 : decode cX6_drawnHops 15 = .ok (.if_icmp .ge 47, 3) := by decide +kernel
theorem dX6_drawnHops_18 : decode cX6_drawnHops 18 = .ok (.iload 5, 2) := by decide +kernel
theorem dX6_drawnHops_20 : decode cX6_drawnHops 20 = .ok (.invokestatic 38, 3) := by decide +kernel
theorem dX6_drawnHops_23 : decode cX6_drawnHops 23 = .ok (.istore 5, 2) := by decide +kernel
theorem dX6_drawnHops_25 : decode cX6_drawnHops 25 = .ok (.iload 4, 2) := by decide +kernel
theorem dX6_drawnHops_27 : decode cX6_drawnHops 27 = .ok (.iload 5, 2) := by decide +kernel
theorem dX6_drawnHops_29 : decode cX6_drawnHops 29 = .ok (.iload_n 3, 1) := by decide +kernel
theorem dX6_drawnHops_30 : decode cX6_drawnHops 30 = .ok (.invokestatic 41, 3) := by decide +kernel
theorem dX6_drawnHops_33 : decode cX6_drawnHops 33 = .ok (.istore 8, 2) := by decide +kernel
theorem dX6_drawnHops_35 : decode cX6_drawnHops 35 = .ok (.iload 6, 2) := by decide +kernel
theorem dX6_drawnHops_37 : decode cX6_drawnHops 37 = .ok (.iload 8, 2) := by decide +kernel
theorem dX6_drawnHops_39 : decode cX6_drawnHops 39 = .ok (.iload 4, 2) := by decide +kernel
theorem dX6_drawnHops_41 : decode cX6_drawnHops 41 = .ok (.if_icmp .ne 7, 3) := by decide +kernel
theorem dX6_drawnHops_44 : decode cX6_drawnHops 44 = .ok (.iconst 0, 1) := by decide +kernel
theorem dX6_drawnHops_45 : decode cX6_drawnHops 45 = .ok (.goto 4, 3) := by decide +kernel
theorem dX6_drawnHops_48 : decode cX6_drawnHops 48 = .ok (.iconst 1, 1) := by decide +kernel
theorem dX6_drawnHops_49 : decode cX6_drawnHops 49 = .ok (.iadd, 1) := by decide +kernel
theorem dX6_drawnHops_50 : decode cX6_drawnHops 50 = .ok (.istore 6, 2) := by decide +kernel
theorem dX6_drawnHops_52 : decode cX6_drawnHops 52 = .ok (.iload 8, 2) := by decide +kernel
theorem dX6_drawnHops_54 : decode cX6_drawnHops 54 = .ok (.istore 4, 2) := by decide +kernel
theorem dX6_drawnHops_56 : decode cX6_drawnHops 56 = .ok (.iinc 7 1, 3) := by decide +kernel
theorem dX6_drawnHops_59 : decode cX6_drawnHops 59 = .ok (.goto (-47), 3) := by decide +kernel
theorem dX6_drawnHops_62 : decode cX6_drawnHops 62 = .ok (.iload 6, 2) := by decide +kernel
theorem dX6_drawnHops_64 : decode cX6_drawnHops 64 = .ok (.ireturn, 1) := by decide +kernel
theorem dX6_alikeFrom_0 : decode cX6_alikeFrom 0 = .ok (.iload_n 0, 1) := by decide +kernel
theorem dX6_alikeFrom_1 : decode cX6_alikeFrom 1 = .ok (.istore 5, 2) := by decide +kernel
theorem dX6_alikeFrom_3 : decode cX6_alikeFrom 3 = .ok (.iload_n 1, 1) := by decide +kernel
theorem dX6_alikeFrom_4 : decode cX6_alikeFrom 4 = .ok (.istore 6, 2) := by decide +kernel
theorem dX6_alikeFrom_6 : decode cX6_alikeFrom 6 = .ok (.iload_n 2, 1) := by decide +kernel
theorem dX6_alikeFrom_7 : decode cX6_alikeFrom 7 = .ok (.istore 7, 2) := by decide +kernel
theorem dX6_alikeFrom_9 : decode cX6_alikeFrom 9 = .ok (.iconst 0, 1) := by decide +kernel
theorem dX6_alikeFrom_10 : decode cX6_alikeFrom 10 = .ok (.istore 8, 2) := by decide +kernel
theorem dX6_alikeFrom_12 : decode cX6_alikeFrom 12 = .ok (.iload 8, 2) := by decide +kernel
theorem dX6_alikeFrom_14 : decode cX6_alikeFrom 14 = .ok (.iload_n 3, 1) := by decide +kernel
theorem dX6_alikeFrom_15 : decode cX6_alikeFrom 15 = .ok (.if_icmp .ge 48, 3) := by decide +kernel
theorem dX6_alikeFrom_18 : decode cX6_alikeFrom 18 = .ok (.iload 5, 2) := by decide +kernel
theorem dX6_alikeFrom_20 : decode cX6_alikeFrom 20 = .ok (.iload 6, 2) := by decide +kernel
theorem dX6_alikeFrom_22 : decode cX6_alikeFrom 22 = .ok (.if_icmp .ne 6, 3) := by decide +kernel
theorem dX6_alikeFrom_25 : decode cX6_alikeFrom 25 = .ok (.iload 8, 2) := by decide +kernel
theorem dX6_alikeFrom_27 : decode cX6_alikeFrom 27 = .ok (.ireturn, 1) := by decide +kernel
theorem dX6_alikeFrom_28 : decode cX6_alikeFrom 28 = .ok (.iload 7, 2) := by decide +kernel
theorem dX6_alikeFrom_30 : decode cX6_alikeFrom 30 = .ok (.invokestatic 38, 3) := by decide +kernel
theorem dX6_alikeFrom_33 : decode cX6_alikeFrom 33 = .ok (.istore 7, 2) := by decide +kernel
theorem dX6_alikeFrom_35 : decode cX6_alikeFrom 35 = .ok (.iload 5, 2) := by decide +kernel
theorem dX6_alikeFrom_37 : decode cX6_alikeFrom 37 = .ok (.iload 7, 2) := by decide +kernel
theorem dX6_alikeFrom_39 : decode cX6_alikeFrom 39 = .ok (.iload 4, 2) := by decide +kernel
theorem dX6_alikeFrom_41 : decode cX6_alikeFrom 41 = .ok (.invokestatic 41, 3) := by decide +kernel
theorem dX6_alikeFrom_44 : decode cX6_alikeFrom 44 = .ok (.istore 5, 2) := by decide +kernel
theorem dX6_alikeFrom_46 : decode cX6_alikeFrom 46 = .ok (.iload 6, 2) := by decide +kernel
theorem dX6_alikeFrom_48 : decode cX6_alikeFrom 48 = .ok (.iload 7, 2) := by decide +kernel
theorem dX6_alikeFrom_50 : decode cX6_alikeFrom 50 = .ok (.iload 4, 2) := by decide +kernel
theorem dX6_alikeFrom_52 : decode cX6_alikeFrom 52 = .ok (.invokestatic 41, 3) := by decide +kernel
theorem dX6_alikeFrom_55 : decode cX6_alikeFrom 55 = .ok (.istore 6, 2) := by decide +kernel
theorem dX6_alikeFrom_57 : decode cX6_alikeFrom 57 = .ok (.iinc 8 1, 3) := by decide +kernel
theorem dX6_alikeFrom_60 : decode cX6_alikeFrom 60 = .ok (.goto (-48), 3) := by decide +kernel
theorem dX6_alikeFrom_63 : decode cX6_alikeFrom 63 = .ok (.iload 5, 2) := by decide +kernel
theorem dX6_alikeFrom_65 : decode cX6_alikeFrom 65 = .ok (.iload 6, 2) := by decide +kernel
theorem dX6_alikeFrom_67 : decode cX6_alikeFrom 67 = .ok (.if_icmp .ne 7, 3) := by decide +kernel
theorem dX6_alikeFrom_70 : decode cX6_alikeFrom 70 = .ok (.iload_n 3, 1) := by decide +kernel
theorem dX6_alikeFrom_71 : decode cX6_alikeFrom 71 = .ok (.goto 5, 3) := by decide +kernel
theorem dX6_alikeFrom_74 : decode cX6_alikeFrom 74 = .ok (.bipush (-4), 2) := by decide +kernel
theorem dX6_alikeFrom_76 : decode cX6_alikeFrom 76 = .ok (.ireturn, 1) := by decide +kernel
theorem dX6_mostUnlike_0 : decode cX6_mostUnlike 0 = .ok (.iload_n 0, 1) := by decide +kernel
theorem dX6_mostUnlike_1 : decode cX6_mostUnlike 1 = .ok (.istore 5, 2) := by decide +kernel
theorem dX6_mostUnlike_3 : decode cX6_mostUnlike 3 = .ok (.iload_n 1, 1) := by decide +kernel
theorem dX6_mostUnlike_4 : decode cX6_mostUnlike 4 = .ok (.istore 6, 2) := by decide +kernel
theorem dX6_mostUnlike_6 : decode cX6_mostUnlike 6 = .ok (.iload_n 2, 1) := by decide +kernel
theorem dX6_mostUnlike_7 : decode cX6_mostUnlike 7 = .ok (.istore 7, 2) := by decide +kernel
theorem dX6_mostUnlike_9 : decode cX6_mostUnlike 9 = .ok (.iload 5, 2) := by decide +kernel
theorem dX6_mostUnlike_11 : decode cX6_mostUnlike 11 = .ok (.iload 6, 2) := by decide +kernel
theorem dX6_mostUnlike_13 : decode cX6_mostUnlike 13 = .ok (.ixor, 1) := by decide +kernel
theorem dX6_mostUnlike_14 : decode cX6_mostUnlike 14 = .ok (.invokestatic 28, 3) := by decide +kernel
theorem dX6_mostUnlike_17 : decode cX6_mostUnlike 17 = .ok (.istore 8, 2) := by decide +kernel
theorem dX6_mostUnlike_19 : decode cX6_mostUnlike 19 = .ok (.iconst 0, 1) := by decide +kernel
theorem dX6_mostUnlike_20 : decode cX6_mostUnlike 20 = .ok (.istore 9, 2) := by decide +kernel
theorem dX6_mostUnlike_22 : decode cX6_mostUnlike 22 = .ok (.iload 9, 2) := by decide +kernel
theorem dX6_mostUnlike_24 : decode cX6_mostUnlike 24 = .ok (.iload_n 3, 1) := by decide +kernel
theorem dX6_mostUnlike_25 : decode cX6_mostUnlike 25 = .ok (.if_icmp .ge 53, 3) := by decide +kernel
theorem dX6_mostUnlike_28 : decode cX6_mostUnlike 28 = .ok (.iload 7, 2) := by decide +kernel
theorem dX6_mostUnlike_30 : decode cX6_mostUnlike 30 = .ok (.invokestatic 38, 3) := by decide +kernel
theorem dX6_mostUnlike_33 : decode cX6_mostUnlike 33 = .ok (.istore 7, 2) := by decide +kernel
theorem dX6_mostUnlike_35 : decode cX6_mostUnlike 35 = .ok (.iload 5, 2) := by decide +kernel
theorem dX6_mostUnlike_37 : decode cX6_mostUnlike 37 = .ok (.iload 7, 2) := by decide +kernel
theorem dX6_mostUnlike_39 : decode cX6_mostUnlike 39 = .ok (.iload 4, 2) := by decide +kernel
theorem dX6_mostUnlike_41 : decode cX6_mostUnlike 41 = .ok (.invokestatic 41, 3) := by decide +kernel
theorem dX6_mostUnlike_44 : decode cX6_mostUnlike 44 = .ok (.istore 5, 2) := by decide +kernel
theorem dX6_mostUnlike_46 : decode cX6_mostUnlike 46 = .ok (.iload 6, 2) := by decide +kernel
theorem dX6_mostUnlike_48 : decode cX6_mostUnlike 48 = .ok (.iload 7, 2) := by decide +kernel
theorem dX6_mostUnlike_50 : decode cX6_mostUnlike 50 = .ok (.iload 4, 2) := by decide +kernel
theorem dX6_mostUnlike_52 : decode cX6_mostUnlike 52 = .ok (.invokestatic 41, 3) := by decide +kernel
theorem dX6_mostUnlike_55 : decode cX6_mostUnlike 55 = .ok (.istore 6, 2) := by decide +kernel
theorem dX6_mostUnlike_57 : decode cX6_mostUnlike 57 = .ok (.iload 8, 2) := by decide +kernel
theorem dX6_mostUnlike_59 : decode cX6_mostUnlike 59 = .ok (.iload 5, 2) := by decide +kernel
theorem dX6_mostUnlike_61 : decode cX6_mostUnlike 61 = .ok (.iload 6, 2) := by decide +kernel
theorem dX6_mostUnlike_63 : decode cX6_mostUnlike 63 = .ok (.ixor, 1) := by decide +kernel
theorem dX6_mostUnlike_64 : decode cX6_mostUnlike 64 = .ok (.invokestatic 28, 3) := by decide +kernel
theorem dX6_mostUnlike_67 : decode cX6_mostUnlike 67 = .ok (.invokestatic 44, 3) := by decide +kernel
theorem dX6_mostUnlike_70 : decode cX6_mostUnlike 70 = .ok (.istore 8, 2) := by decide +kernel
theorem dX6_mostUnlike_72 : decode cX6_mostUnlike 72 = .ok (.iinc 9 1, 3) := by decide +kernel
theorem dX6_mostUnlike_75 : decode cX6_mostUnlike 75 = .ok (.goto (-53), 3) := by decide +kernel
theorem dX6_mostUnlike_78 : decode cX6_mostUnlike 78 = .ok (.iload 8, 2) := by decide +kernel
theorem dX6_mostUnlike_80 : decode cX6_mostUnlike 80 = .ok (.ireturn, 1) := by decide +kernel
theorem dX7_init_0 : decode cX7_init 0 = .ok (.aload_n 0, 1) := by decide +kernel
theorem dX7_init_1 : decode cX7_init 1 = .ok (.invokespecial 1, 3) := by decide +kernel
theorem dX7_init_4 : decode cX7_init 4 = .ok (.aload_n 0, 1) := by decide +kernel
theorem dX7_init_5 : decode cX7_init 5 = .ok (.iconst 4, 1) := by decide +kernel
theorem dX7_init_6 : decode cX7_init 6 = .ok (.newarray .int, 2) := by decide +kernel
theorem dX7_init_8 : decode cX7_init 8 = .ok (.putfield 9, 3) := by decide +kernel
theorem dX7_init_11 : decode cX7_init 11 = .ok (.aload_n 0, 1) := by decide +kernel
theorem dX7_init_12 : decode cX7_init 12 = .ok (.iconst 4, 1) := by decide +kernel
theorem dX7_init_13 : decode cX7_init 13 = .ok (.newarray .int, 2) := by decide +kernel
theorem dX7_init_15 : decode cX7_init 15 = .ok (.putfield 13, 3) := by decide +kernel
theorem dX7_init_18 : decode cX7_init 18 = .ok (.aload_n 0, 1) := by decide +kernel
theorem dX7_init_19 : decode cX7_init 19 = .ok (.sipush 256, 3) := by decide +kernel
theorem dX7_init_22 : decode cX7_init 22 = .ok (.newarray .int, 2) := by decide +kernel
theorem dX7_init_24 : decode cX7_init 24 = .ok (.putfield 16, 3) := by decide +kernel
theorem dX7_init_27 : decode cX7_init 27 = .ok (.iconst 0, 1) := by decide +kernel
theorem dX7_init_28 : decode cX7_init 28 = .ok (.istore_n 1, 1) := by decide +kernel
theorem dX7_init_29 : decode cX7_init 29 = .ok (.iload_n 1, 1) := by decide +kernel
theorem dX7_init_30 : decode cX7_init 30 = .ok (.iconst 4, 1) := by decide +kernel
theorem dX7_init_31 : decode cX7_init 31 = .ok (.if_icmp .ge 16, 3) := by decide +kernel
theorem dX7_init_34 : decode cX7_init 34 = .ok (.aload_n 0, 1) := by decide +kernel
theorem dX7_init_35 : decode cX7_init 35 = .ok (.getfield 9, 3) := by decide +kernel
theorem dX7_init_38 : decode cX7_init 38 = .ok (.iload_n 1, 1) := by decide +kernel
theorem dX7_init_39 : decode cX7_init 39 = .ok (.iconst (-1), 1) := by decide +kernel
theorem dX7_init_40 : decode cX7_init 40 = .ok (.iastore, 1) := by decide +kernel
theorem dX7_init_41 : decode cX7_init 41 = .ok (.iinc 1 1, 3) := by decide +kernel
theorem dX7_init_44 : decode cX7_init 44 = .ok (.goto (-15), 3) := by decide +kernel
theorem dX7_init_47 : decode cX7_init 47 = .ok (.return_, 1) := by decide +kernel
theorem dX7_isSheet_0 : decode cX7_isSheet 0 = .ok (.iload_n 0, 1) := by decide +kernel
theorem dX7_isSheet_1 : decode cX7_isSheet 1 = .ok (.ifCond .lt 12, 3) := by decide +kernel
theorem dX7_isSheet_4 : decode cX7_isSheet 4 = .ok (.iload_n 0, 1) := by decide +kernel
theorem dX7_isSheet_5 : decode cX7_isSheet 5 = .ok (.iconst 4, 1) := by decide +kernel
theorem dX7_isSheet_6 : decode cX7_isSheet 6 = .ok (.if_icmp .ge 7, 3) := by decide +kernel
theorem dX7_isSheet_9 : decode cX7_isSheet 9 = .ok (.iconst 1, 1) := by decide +kernel
theorem dX7_isSheet_10 : decode cX7_isSheet 10 = .ok (.goto 4, 3) := by decide +kernel
theorem dX7_isSheet_13 : decode cX7_isSheet 13 = .ok (.iconst 0, 1) := by decide +kernel
theorem dX7_isSheet_14 : decode cX7_isSheet 14 = .ok (.ireturn, 1) := by decide +kernel
theorem dX7_isKind_0 : decode cX7_isKind 0 = .ok (.iload_n 0, 1) := by decide +kernel
theorem dX7_isKind_1 : decode cX7_isKind 1 = .ok (.ifCond .lt 12, 3) := by decide +kernel
theorem dX7_isKind_4 : decode cX7_isKind 4 = .ok (.iload_n 0, 1) := by decide +kernel
theorem dX7_isKind_5 : decode cX7_isKind 5 = .ok (.iconst 2, 1) := by decide +kernel
theorem dX7_isKind_6 : decode cX7_isKind 6 = .ok (.if_icmp .gt 7, 3) := by decide +kernel
theorem dX7_isKind_9 : decode cX7_isKind 9 = .ok (.iconst 1, 1) := by decide +kernel
theorem dX7_isKind_10 : decode cX7_isKind 10 = .ok (.goto 4, 3) := by decide +kernel
theorem dX7_isKind_13 : decode cX7_isKind 13 = .ok (.iconst 0, 1) := by decide +kernel
theorem dX7_isKind_14 : decode cX7_isKind 14 = .ok (.ireturn, 1) := by decide +kernel
theorem dX7_renew_0 : decode cX7_renew 0 = .ok (.iload_n 1, 1) := by decide +kernel
theorem dX7_renew_1 : decode cX7_renew 1 = .ok (.invokestatic 19, 3) := by decide +kernel
theorem dX7_renew_4 : decode cX7_renew 4 = .ok (.ifCond .eq 20, 3) := by decide +kernel
theorem dX7_renew_7 : decode cX7_renew 7 = .ok (.iload_n 2, 1) := by decide +kernel
theorem dX7_renew_8 : decode cX7_renew 8 = .ok (.invokestatic 23, 3) := by decide +kernel
theorem dX7_renew_11 : decode cX7_renew 11 = .ok (.ifCond .eq 13, 3) := by decide +kernel
theorem dX7_renew_14 : decode cX7_renew 14 = .ok (.iload_n 3, 1) := by decide +kernel
theorem dX7_renew_15 : decode cX7_renew 15 = .ok (.ifCond .lt 9, 3) := by decide +kernel
theorem dX7_renew_18 : decode cX7_renew 18 = .ok (.iload_n 3, 1) := by decide +kernel
theorem dX7_renew_19 : decode cX7_renew 19 = .ok (.bipush 64, 2) := by decide +kernel
theorem dX7_renew_21 : decode cX7_renew 21 = .ok (.if_icmp .le 4, 3) := by decide +kernel
theorem dX7_renew_24 : decode cX7_renew 24 = .ok (.return_, 1) := by decide +kernel
theorem dX7_renew_25 : decode cX7_renew 25 = .ok (.aload_n 0, 1) := by decide +kernel
theorem dX7_renew_26 : decode cX7_renew 26 = .ok (.getfield 9, 3) := by decide +kernel
theorem dX7_renew_29 : decode cX7_renew 29 = .ok (.iload_n 1, 1) := by decide +kernel
theorem dX7_renew_30 : decode cX7_renew 30 = .ok (.iload_n 2, 1) := by decide +kernel
theorem dX7_renew_31 : decode cX7_renew 31 = .ok (.iastore, 1) := by decide +kernel
theorem dX7_renew_32 : decode cX7_renew 32 = .ok (.aload_n 0, 1) := by decide +kernel
theorem dX7_renew_33 : decode cX7_renew 33 = .ok (.getfield 13, 3) := by decide +kernel
theorem dX7_renew_36 : decode cX7_renew 36 = .ok (.iload_n 1, 1) := by decide +kernel
theorem dX7_renew_37 : decode cX7_renew 37 = .ok (.iload_n 3, 1) := by decide +kernel
theorem dX7_renew_38 : decode cX7_renew 38 = .ok (.iastore, 1) := by decide +kernel
theorem dX7_renew_39 : decode cX7_renew 39 = .ok (.iconst 0, 1) := by decide +kernel
theorem dX7_renew_40 : decode cX7_renew 40 = .ok (.istore 4, 2) := by decide +kernel
theorem dX7_renew_42 : decode cX7_renew 42 = .ok (.iload 4, 2) := by decide +kernel
theorem dX7_renew_44 : decode cX7_renew 44 = .ok (.iload_n 3, 1) := by decide +kernel
theorem dX7_renew_45 : decode cX7_renew 45 = .ok (.if_icmp .ge 22, 3) := by decide +kernel
theorem dX7_renew_48 : decode cX7_renew 48 = .ok (.aload_n 0, 1) := by decide +kernel
theorem dX7_renew_49 : decode cX7_renew 49 = .ok (.getfield 16, 3) := by decide +kernel
theorem dX7_renew_52 : decode cX7_renew 52 = .ok (.iload_n 1, 1) := by decide +kernel
theorem dX7_renew_53 : decode cX7_renew 53 = .ok (.bipush 64, 2) := by decide +kernel
theorem dX7_renew_55 : decode cX7_renew 55 = .ok (.imul, 1) := by decide +kernel
theorem dX7_renew_56 : decode cX7_renew 56 = .ok (.iload 4, 2) := by decide +kernel
theorem dX7_renew_58 : decode cX7_renew 58 = .ok (.iadd, 1) := by decide +kernel
theorem dX7_renew_59 : decode cX7_renew 59 = .ok (.iconst 0, 1) := by decide +kernel
theorem dX7_renew_60 : decode cX7_renew 60 = .ok (.iastore, 1) := by decide +kernel
theorem dX7_renew_61 : decode cX7_renew 61 = .ok (.iinc 4 1, 3) := by decide +kernel
theorem dX7_renew_64 : decode cX7_renew 64 = .ok (.goto (-22), 3) := by decide +kernel
theorem dX7_renew_67 : decode cX7_renew 67 = .ok (.return_, 1) := by decide +kernel
theorem dX7_isNothing_0 : decode cX7_isNothing 0 = .ok (.iload_n 1, 1) := by decide +kernel
theorem dX7_isNothing_1 : decode cX7_isNothing 1 = .ok (.invokestatic 19, 3) := by decide +kernel
theorem dX7_isNothing_4 : decode cX7_isNothing 4 = .ok (.ifCond .eq 13, 3) := by decide +kernel
theorem dX7_isNothing_7 : decode cX7_isNothing 7 = .ok (.aload_n 0, 1) := by decide +kernel
theorem dX7_isNothing_8 : decode cX7_isNothing 8 = .ok (.getfield 9, 3) := by decide +kernel
theorem dX7_isNothing_11 : decode cX7_isNothing 11 = .ok (.iload_n 1, 1) := by decide +kernel
theorem dX7_isNothing_12 : decode cX7_isNothing 12 = .ok (.iaload, 1) := by decide +kernel
theorem dX7_isNothing_13 : decode cX7_isNothing 13 = .ok (.iconst (-1), 1) := by decide +kernel
theorem dX7_isNothing_14 : decode cX7_isNothing 14 = .ok (.if_icmp .ne 7, 3) := by decide +kernel
theorem dX7_isNothing_17 : decode cX7_isNothing 17 = .ok (.iconst 1, 1) := by decide +kernel
theorem dX7_isNothing_18 : decode cX7_isNothing 18 = .ok (.goto 4, 3) := by decide +kernel
theorem dX7_isNothing_21 : decode cX7_isNothing 21 = .ok (.iconst 0, 1) := by decide +kernel
theorem dX7_isNothing_22 : decode cX7_isNothing 22 = .ok (.ireturn, 1) := by decide +kernel
theorem dX7_isOfKind_0 : decode cX7_isOfKind 0 = .ok (.iload_n 1, 1) := by decide +kernel
theorem dX7_isOfKind_1 : decode cX7_isOfKind 1 = .ok (.invokestatic 19, 3) := by decide +kernel
theorem dX7_isOfKind_4 : decode cX7_isOfKind 4 = .ok (.ifCond .eq 17, 3) := by decide +kernel
theorem dX7_isOfKind_7 : decode cX7_isOfKind 7 = .ok (.aload_n 0, 1) := by decide +kernel
theorem dX7_isOfKind_8 : decode cX7_isOfKind 8 = .ok (.getfield 9, 3) := by decide +kernel
theorem dX7_isOfKind_11 : decode cX7_isOfKind 11 = .ok (.iload_n 1, 1) := by decide +kernel
theorem dX7_isOfKind_12 : decode cX7_isOfKind 12 = .ok (.iaload, 1) := by decide +kernel
theorem dX7_isOfKind_13 : decode cX7_isOfKind 13 = .ok (.iload_n 2, 1) := by decide +kernel
theorem dX7_isOfKind_14 : decode cX7_isOfKind 14 = .ok (.if_icmp .ne 7, 3) := by decide +kernel
theorem dX7_isOfKind_17 : decode cX7_isOfKind 17 = .ok (.iconst 1, 1) := by decide +kernel
theorem dX7_isOfKind_18 : decode cX7_isOfKind 18 = .ok (.goto 4, 3) := by decide +kernel
theorem dX7_isOfKind_21 : decode cX7_isOfKind 21 = .ok (.iconst 0, 1) := by decide +kernel
theorem dX7_isOfKind_22 : decode cX7_isOfKind 22 = .ok (.ireturn, 1) := by decide +kernel
theorem dX7_size_0 : decode cX7_size 0 = .ok (.iload_n 1, 1) := by decide +kernel
theorem dX7_size_1 : decode cX7_size 1 = .ok (.invokestatic 19, 3) := by decide +kernel
theorem dX7_size_4 : decode cX7_size 4 = .ok (.ifCond .eq 12, 3) := by decide +kernel
theorem dX7_size_7 : decode cX7_size 7 = .ok (.aload_n 0, 1) := by decide +kernel
theorem dX7_size_8 : decode cX7_size 8 = .ok (.getfield 13, 3) := by decide +kernel
theorem dX7_size_11 : decode cX7_size 11 = .ok (.iload_n 1, 1) := by decide +kernel
theorem dX7_size_12 : decode cX7_size 12 = .ok (.iaload, 1) := by decide +kernel
theorem dX7_size_13 : decode cX7_size 13 = .ok (.goto 4, 3) := by decide +kernel
theorem dX7_size_16 : decode cX7_size 16 = .ok (.iconst 0, 1) := by decide +kernel
theorem dX7_size_17 : decode cX7_size 17 = .ok (.ireturn, 1) := by decide +kernel
theorem dX7_hasCell_0 : decode cX7_hasCell 0 = .ok (.iload_n 1, 1) := by decide +kernel
theorem dX7_hasCell_1 : decode cX7_hasCell 1 = .ok (.invokestatic 19, 3) := by decide +kernel
theorem dX7_hasCell_4 : decode cX7_hasCell 4 = .ok (.ifCond .eq 21, 3) := by decide +kernel
theorem dX7_hasCell_7 : decode cX7_hasCell 7 = .ok (.iload_n 2, 1) := by decide +kernel
theorem dX7_hasCell_8 : decode cX7_hasCell 8 = .ok (.ifCond .lt 17, 3) := by decide +kernel
theorem dX7_hasCell_11 : decode cX7_hasCell 11 = .ok (.iload_n 2, 1) := by decide +kernel
theorem dX7_hasCell_12 : decode cX7_hasCell 12 = .ok (.aload_n 0, 1) := by decide +kernel
theorem dX7_hasCell_13 : decode cX7_hasCell 13 = .ok (.getfield 13, 3) := by decide +kernel
theorem dX7_hasCell_16 : decode cX7_hasCell 16 = .ok (.iload_n 1, 1) := by decide +kernel
theorem dX7_hasCell_17 : decode cX7_hasCell 17 = .ok (.iaload, 1) := by decide +kernel
theorem dX7_hasCell_18 : decode cX7_hasCell 18 = .ok (.if_icmp .ge 7, 3) := by decide +kernel
theorem dX7_hasCell_21 : decode cX7_hasCell 21 = .ok (.iconst 1, 1) := by decide +kernel
theorem dX7_hasCell_22 : decode cX7_hasCell 22 = .ok (.goto 4, 3) := by decide +kernel
theorem dX7_hasCell_25 : decode cX7_hasCell 25 = .ok (.iconst 0, 1) := by decide +kernel
theorem dX7_hasCell_26 : decode cX7_hasCell 26 = .ok (.ireturn, 1) := by decide +kernel
theorem dX7_cell_0 : decode cX7_cell 0 = .ok (.aload_n 0, 1) := by decide +kernel
theorem dX7_cell_1 : decode cX7_cell 1 = .ok (.iload_n 1, 1) := by decide +kernel
theorem dX7_cell_2 : decode cX7_cell 2 = .ok (.iload_n 2, 1) := by decide +kernel
theorem dX7_cell_3 : decode cX7_cell 3 = .ok (.invokevirtual 26, 3) := by decide +kernel
theorem dX7_cell_6 : decode cX7_cell 6 = .ok (.ifCond .eq 17, 3) := by decide +kernel
theorem dX7_cell_9 : decode cX7_cell 9 = .ok (.aload_n 0, 1) := by decide +kernel
theorem dX7_cell_10 : decode cX7_cell 10 = .ok (.getfield 16, 3) := by decide +kernel
theorem dX7_cell_13 : decode cX7_cell 13 = .ok (.iload_n 1, 1) := by decide +kernel
theorem dX7_cell_14 : decode cX7_cell 14 = .ok (.bipush 64, 2) := by decide +kernel
theorem dX7_cell_16 : decode cX7_cell 16 = .ok (.imul, 1) := by decide +kernel
theorem dX7_cell_17 : decode cX7_cell 17 = .ok (.iload_n 2, 1) := by decide +kernel
theorem dX7_cell_18 : decode cX7_cell 18 = .ok (.iadd, 1) := by decide +kernel
theorem dX7_cell_19 : decode cX7_cell 19 = .ok (.iaload, 1) := by decide +kernel
theorem dX7_cell_20 : decode cX7_cell 20 = .ok (.goto 4, 3) := by decide +kernel
theorem dX7_cell_23 : decode cX7_cell 23 = .ok (.iconst 0, 1) := by decide +kernel
theorem dX7_cell_24 : decode cX7_cell 24 = .ok (.ireturn, 1) := by decide +kernel
theorem dX7_put_0 : decode cX7_put 0 = .ok (.aload_n 0, 1) := by decide +kernel
theorem dX7_put_1 : decode cX7_put 1 = .ok (.iload_n 1, 1) := by decide +kernel
theorem dX7_put_2 : decode cX7_put 2 = .ok (.iload_n 2, 1) := by decide +kernel
theorem dX7_put_3 : decode cX7_put 3 = .ok (.invokevirtual 26, 3) := by decide +kernel
theorem dX7_put_6 : decode cX7_put 6 = .ok (.ifCond .ne 4, 3) := by decide +kernel
theorem dX7_put_9 : decode cX7_put 9 = .ok (.return_, 1) := by decide +kernel
theorem dX7_put_10 : decode cX7_put 10 = .ok (.aload_n 0, 1) := by decide +kernel
theorem dX7_put_11 : decode cX7_put 11 = .ok (.getfield 16, 3) := by decide +kernel
theorem dX7_put_14 : decode cX7_put 14 = .ok (.iload_n 1, 1) := by decide +kernel
theorem dX7_put_15 : decode cX7_put 15 = .ok (.bipush 64, 2) := by decide +kernel
theorem dX7_put_17 : decode cX7_put 17 = .ok (.imul, 1) := by decide +kernel
theorem dX7_put_18 : decode cX7_put 18 = .ok (.iload_n 2, 1) := by decide +kernel
theorem dX7_put_19 : decode cX7_put 19 = .ok (.iadd, 1) := by decide +kernel
theorem dX7_put_20 : decode cX7_put 20 = .ok (.aload_n 0, 1) := by decide +kernel
theorem dX7_put_21 : decode cX7_put 21 = .ok (.getfield 9, 3) := by decide +kernel
theorem dX7_put_24 : decode cX7_put 24 = .ok (.iload_n 1, 1) := by decide +kernel
theorem dX7_put_25 : decode cX7_put 25 = .ok (.iaload, 1) := by decide +kernel
theorem dX7_put_26 : decode cX7_put 26 = .ok (.iload_n 3, 1) := by decide +kernel
theorem dX7_put_27 : decode cX7_put 27 = .ok (.invokestatic 30, 3) := by decide +kernel
theorem dX7_put_30 : decode cX7_put 30 = .ok (.iastore, 1) := by decide +kernel
theorem dX7_put_31 : decode cX7_put 31 = .ok (.return_, 1) := by decide +kernel
theorem dX7_narrowed_0 : decode cX7_narrowed 0 = .ok (.iload_n 0, 1) := by decide +kernel
theorem dX7_narrowed_1 : decode cX7_narrowed 1 = .ok (.lookupswitch 33 #[(0, 27), (1, 30)], 27) := by decide +kernel
theorem dX7_narrowed_28 : decode cX7_narrowed 28 = .ok (.iload_n 1, 1) := by decide +kernel
theorem dX7_narrowed_29 : decode cX7_narrowed 29 = .ok (.i2b, 1) := by decide +kernel
theorem dX7_narrowed_30 : decode cX7_narrowed 30 = .ok (.ireturn, 1) := by decide +kernel
theorem dX7_narrowed_31 : decode cX7_narrowed 31 = .ok (.iload_n 1, 1) := by decide +kernel
theorem dX7_narrowed_32 : decode cX7_narrowed 32 = .ok (.i2s, 1) := by decide +kernel
theorem dX7_narrowed_33 : decode cX7_narrowed 33 = .ok (.ireturn, 1) := by decide +kernel
theorem dX7_narrowed_34 : decode cX7_narrowed 34 = .ok (.iload_n 1, 1) := by decide +kernel
theorem dX7_narrowed_35 : decode cX7_narrowed 35 = .ok (.ireturn, 1) := by decide +kernel
theorem dX8_init_0 : decode cX8_init 0 = .ok (.aload_n 0, 1) := by decide +kernel
theorem dX8_init_1 : decode cX8_init 1 = .ok (.invokespecial 1, 3) := by decide +kernel
theorem dX8_init_4 : decode cX8_init 4 = .ok (.aload_n 0, 1) := by decide +kernel
theorem dX8_init_5 : decode cX8_init 5 = .ok (.bipush 120, 2) := by decide +kernel
theorem dX8_init_7 : decode cX8_init 7 = .ok (.newarray .byte, 2) := by decide +kernel
theorem dX8_init_9 : decode cX8_init 9 = .ok (.putfield 9, 3) := by decide +kernel
theorem dX8_init_12 : decode cX8_init 12 = .ok (.return_, 1) := by decide +kernel
theorem dX8_length_0 : decode cX8_length 0 = .ok (.aload_n 0, 1) := by decide +kernel
theorem dX8_length_1 : decode cX8_length 1 = .ok (.getfield 13, 3) := by decide +kernel
theorem dX8_length_4 : decode cX8_length 4 = .ok (.ireturn, 1) := by decide +kernel
theorem dX8_append_0 : decode cX8_append 0 = .ok (.aload_n 0, 1) := by decide +kernel
theorem dX8_append_1 : decode cX8_append 1 = .ok (.getfield 13, 3) := by decide +kernel
theorem dX8_append_4 : decode cX8_append 4 = .ok (.bipush 8, 2) := by decide +kernel
theorem dX8_append_6 : decode cX8_append 6 = .ok (.iadd, 1) := by decide +kernel
theorem dX8_append_7 : decode cX8_append 7 = .ok (.aload_n 0, 1) := by decide +kernel
theorem dX8_append_8 : decode cX8_append 8 = .ok (.getfield 9, 3) := by decide +kernel
theorem dX8_append_11 : decode cX8_append 11 = .ok (.arraylength, 1) := by decide +kernel
theorem dX8_append_12 : decode cX8_append 12 = .ok (.if_icmp .le 5, 3) := by decide +kernel
theorem dX8_append_15 : decode cX8_append 15 = .ok (.iconst 0, 1) := by decide +kernel
theorem dX8_append_16 : decode cX8_append 16 = .ok (.ireturn, 1) := by decide +kernel
theorem dX8_append_17 : decode cX8_append 17 = .ok (.iconst 0, 1) := by decide +kernel
theorem dX8_append_18 : decode cX8_append 18 = .ok (.istore_n 3, 1) := by decide +kernel
theorem dX8_append_19 : decode cX8_append 19 = .ok (.iload_n 3, 1) := by decide +kernel
theorem dX8_append_20 : decode cX8_append 20 = .ok (.bipush 8, 2) := by decide +kernel
theorem dX8_append_22 : decode cX8_append 22 = .ok (.if_icmp .ge 31, 3) := by decide +kernel
theorem dX8_append_25 : decode cX8_append 25 = .ok (.aload_n 0, 1) := by decide +kernel
theorem dX8_append_26 : decode cX8_append 26 = .ok (.getfield 9, 3) := by decide +kernel
theorem dX8_append_29 : decode cX8_append 29 = .ok (.aload_n 0, 1) := by decide +kernel
theorem dX8_append_30 : decode cX8_append 30 = .ok (.getfield 13, 3) := by decide +kernel
theorem dX8_append_33 : decode cX8_append 33 = .ok (.iload_n 3, 1) := by decide +kernel
theorem dX8_append_34 : decode cX8_append 34 = .ok (.iadd, 1) := by decide +kernel
theorem dX8_append_35 : decode cX8_append 35 = .ok (.lload_n 1, 1) := by decide +kernel
theorem dX8_append_36 : decode cX8_append 36 = .ok (.bipush 56, 2) := by decide +kernel
theorem dX8_append_38 : decode cX8_append 38 = .ok (.bipush 8, 2) := by decide +kernel
theorem dX8_append_40 : decode cX8_append 40 = .ok (.iload_n 3, 1) := by decide +kernel
theorem dX8_append_41 : decode cX8_append 41 = .ok (.imul, 1) := by decide +kernel
theorem dX8_append_42 : decode cX8_append 42 = .ok (.isub, 1) := by decide +kernel
theorem dX8_append_43 : decode cX8_append 43 = .ok (.lshr, 1) := by decide +kernel
theorem dX8_append_44 : decode cX8_append 44 = .ok (.l2i, 1) := by decide +kernel
theorem dX8_append_45 : decode cX8_append 45 = .ok (.i2b, 1) := by decide +kernel
theorem dX8_append_46 : decode cX8_append 46 = .ok (.bastore, 1) := by decide +kernel
theorem dX8_append_47 : decode cX8_append 47 = .ok (.iinc 3 1, 3) := by decide +kernel
theorem dX8_append_50 : decode cX8_append 50 = .ok (.goto (-31), 3) := by decide +kernel
theorem dX8_append_53 : decode cX8_append 53 = .ok (.aload_n 0, 1) := by decide +kernel
theorem dX8_append_54 : decode cX8_append 54 = .ok (.dup, 1) := by decide +kernel
theorem dX8_append_55 : decode cX8_append 55 = .ok (.getfield 13, 3) := by decide +kernel
theorem dX8_append_58 : decode cX8_append 58 = .ok (.bipush 8, 2) := by decide +kernel
theorem dX8_append_60 : decode cX8_append 60 = .ok (.iadd, 1) := by decide +kernel
theorem dX8_append_61 : decode cX8_append 61 = .ok (.putfield 13, 3) := by decide +kernel
theorem dX8_append_64 : decode cX8_append 64 = .ok (.iconst 1, 1) := by decide +kernel
theorem dX8_append_65 : decode cX8_append 65 = .ok (.ireturn, 1) := by decide +kernel
theorem dX8_cut_0 : decode cX8_cut 0 = .ok (.iload_n 1, 1) := by decide +kernel
theorem dX8_cut_1 : decode cX8_cut 1 = .ok (.ifCond .lt 11, 3) := by decide +kernel
theorem dX8_cut_4 : decode cX8_cut 4 = .ok (.iload_n 1, 1) := by decide +kernel
theorem dX8_cut_5 : decode cX8_cut 5 = .ok (.aload_n 0, 1) := by decide +kernel
theorem dX8_cut_6 : decode cX8_cut 6 = .ok (.getfield 13, 3) := by decide +kernel
theorem dX8_cut_9 : decode cX8_cut 9 = .ok (.if_icmp .le 5, 3) := by decide +kernel
theorem dX8_cut_12 : decode cX8_cut 12 = .ok (.iconst 0, 1) := by decide +kernel
theorem dX8_cut_13 : decode cX8_cut 13 = .ok (.ireturn, 1) := by decide +kernel
theorem dX8_cut_14 : decode cX8_cut 14 = .ok (.aload_n 0, 1) := by decide +kernel
theorem dX8_cut_15 : decode cX8_cut 15 = .ok (.iload_n 1, 1) := by decide +kernel
theorem dX8_cut_16 : decode cX8_cut 16 = .ok (.putfield 13, 3) := by decide +kernel
theorem dX8_cut_19 : decode cX8_cut 19 = .ok (.iconst 1, 1) := by decide +kernel
theorem dX8_cut_20 : decode cX8_cut 20 = .ok (.ireturn, 1) := by decide +kernel
theorem dX8_byteAt_0 : decode cX8_byteAt 0 = .ok (.iload_n 1, 1) := by decide +kernel
theorem dX8_byteAt_1 : decode cX8_byteAt 1 = .ok (.ifCond .lt 20, 3) := by decide +kernel
theorem dX8_byteAt_4 : decode cX8_byteAt 4 = .ok (.iload_n 1, 1) := by decide +kernel
theorem dX8_byteAt_5 : decode cX8_byteAt 5 = .ok (.aload_n 0, 1) := by decide +kernel
theorem dX8_byteAt_6 : decode cX8_byteAt 6 = .ok (.getfield 13, 3) := by decide +kernel
theorem dX8_byteAt_9 : decode cX8_byteAt 9 = .ok (.if_icmp .ge 12, 3) := by decide +kernel
theorem dX8_byteAt_12 : decode cX8_byteAt 12 = .ok (.iload_n 1, 1) := by decide +kernel
theorem dX8_byteAt_13 : decode cX8_byteAt 13 = .ok (.aload_n 0, 1) := by decide +kernel
theorem dX8_byteAt_14 : decode cX8_byteAt 14 = .ok (.getfield 9, 3) := by decide +kernel
theorem dX8_byteAt_17 : decode cX8_byteAt 17 = .ok (.arraylength, 1) := by decide +kernel
theorem dX8_byteAt_18 : decode cX8_byteAt 18 = .ok (.if_icmp .lt 5, 3) := by decide +kernel
theorem dX8_byteAt_21 : decode cX8_byteAt 21 = .ok (.iconst (-1), 1) := by decide +kernel
theorem dX8_byteAt_22 : decode cX8_byteAt 22 = .ok (.ireturn, 1) := by decide +kernel
theorem dX8_byteAt_23 : decode cX8_byteAt 23 = .ok (.aload_n 0, 1) := by decide +kernel
theorem dX8_byteAt_24 : decode cX8_byteAt 24 = .ok (.getfield 9, 3) := by decide +kernel
theorem dX8_byteAt_27 : decode cX8_byteAt 27 = .ok (.iload_n 1, 1) := by decide +kernel
theorem dX8_byteAt_28 : decode cX8_byteAt 28 = .ok (.baload, 1) := by decide +kernel
theorem dX8_byteAt_29 : decode cX8_byteAt 29 = .ok (.sipush 255, 3) := by decide +kernel
theorem dX8_byteAt_32 : decode cX8_byteAt 32 = .ok (.iand, 1) := by decide +kernel
theorem dX8_byteAt_33 : decode cX8_byteAt 33 = .ok (.ireturn, 1) := by decide +kernel
theorem dX9_lowest_0 : decode cX9_lowest 0 = .ok (.lload_n 0, 1) := by decide +kernel
theorem dX9_lowest_1 : decode cX9_lowest 1 = .ok (.invokestatic 7, 3) := by decide +kernel
theorem dX9_lowest_4 : decode cX9_lowest 4 = .ok (.lload_n 2, 1) := by decide +kernel
theorem dX9_lowest_5 : decode cX9_lowest 5 = .ok (.invokestatic 13, 3) := by decide +kernel
theorem dX9_lowest_8 : decode cX9_lowest 8 = .ok (.lstore 5, 2) := by decide +kernel
theorem dX9_lowest_10 : decode cX9_lowest 10 = .ok (.lload 5, 2) := by decide +kernel
theorem dX9_lowest_12 : decode cX9_lowest 12 = .ok (.lconst 0, 1) := by decide +kernel
theorem dX9_lowest_13 : decode cX9_lowest 13 = .ok (.lcmp, 1) := by decide +kernel
theorem dX9_lowest_14 : decode cX9_lowest 14 = .ok (.ifCond .ne 5, 3) := by decide +kernel
theorem dX9_lowest_17 : decode cX9_lowest 17 = .ok (.lconst 0, 1) := by decide +kernel
theorem dX9_lowest_18 : decode cX9_lowest 18 = .ok (.lreturn, 1) := by decide +kernel
theorem dX9_lowest_19 : decode cX9_lowest 19 = .ok (.iload 4, 2) := by decide +kernel
theorem dX9_lowest_21 : decode cX9_lowest 21 = .ok (.ifCond .ne 7, 3) := by decide +kernel
theorem dX9_lowest_24 : decode cX9_lowest 24 = .ok (.lload_n 0, 1) := by decide +kernel
theorem dX9_lowest_25 : decode cX9_lowest 25 = .ok (.goto 4, 3) := by decide +kernel
theorem dX9_lowest_28 : decode cX9_lowest 28 = .ok (.lload_n 2, 1) := by decide +kernel
theorem dX9_lowest_29 : decode cX9_lowest 29 = .ok (.lload 5, 2) := by decide +kernel
theorem dX9_lowest_31 : decode cX9_lowest 31 = .ok (.ldiv, 1) := by decide +kernel
theorem dX9_lowest_32 : decode cX9_lowest 32 = .ok (.lreturn, 1) := by decide +kernel
theorem dX9_commonDivisor_0 : decode cX9_commonDivisor 0 = .ok (.lload_n 0, 1) := by decide +kernel
theorem dX9_commonDivisor_1 : decode cX9_commonDivisor 1 = .ok (.lstore 4, 2) := by decide +kernel
theorem dX9_commonDivisor_3 : decode cX9_commonDivisor 3 = .ok (.lload_n 2, 1) := by decide +kernel
theorem dX9_commonDivisor_4 : decode cX9_commonDivisor 4 = .ok (.lstore 6, 2) := by decide +kernel
theorem dX9_commonDivisor_6 : decode cX9_commonDivisor 6 = .ok (.iconst 0, 1) := by decide +kernel
theorem dX9_commonDivisor_7 : decode cX9_commonDivisor 7 = .ok (.istore 8, 2) := by decide +kernel
theorem dX9_commonDivisor_9 : decode cX9_commonDivisor 9 = .ok (.iload 8, 2) := by decide +kernel
theorem dX9_commonDivisor_11 : decode cX9_commonDivisor 11 = .ok (.bipush 100, 2) := by decide +kernel
theorem dX9_commonDivisor_13 : decode cX9_commonDivisor 13 = .ok (.if_icmp .ge 31, 3) := by decide +kernel
theorem dX9_commonDivisor_16 : decode cX9_commonDivisor 16 = .ok (.lload 6, 2) := by decide +kernel
theorem dX9_commonDivisor_18 : decode cX9_commonDivisor 18 = .ok (.lconst 0, 1) := by decide +kernel
theorem dX9_commonDivisor_19 : decode cX9_commonDivisor 19 = .ok (.lcmp, 1) := by decide +kernel
theorem dX9_commonDivisor_20 : decode cX9_commonDivisor 20 = .ok (.ifCond .eq 24, 3) := by decide +kernel
theorem dX9_commonDivisor_23 : decode cX9_commonDivisor 23 = .ok (.lload 4, 2) := by decide +kernel
theorem dX9_commonDivisor_25 : decode cX9_commonDivisor 25 = .ok (.lload 6, 2) := by decide +kernel
theorem dX9_commonDivisor_27 : decode cX9_commonDivisor 27 = .ok (.lrem, 1) := by decide +kernel
theorem dX9_commonDivisor_28 : decode cX9_commonDivisor 28 = .ok (.lstore 9, 2) := by decide +kernel
theorem dX9_commonDivisor_30 : decode cX9_commonDivisor 30 = .ok (.lload 6, 2) := by decide +kernel
theorem dX9_commonDivisor_32 : decode cX9_commonDivisor 32 = .ok (.lstore 4, 2) := by decide +kernel
theorem dX9_commonDivisor_34 : decode cX9_commonDivisor 34 = .ok (.lload 9, 2) := by decide +kernel
theorem dX9_commonDivisor_36 : decode cX9_commonDivisor 36 = .ok (.lstore 6, 2) := by decide +kernel
theorem dX9_commonDivisor_38 : decode cX9_commonDivisor 38 = .ok (.iinc 8 1, 3) := by decide +kernel
theorem dX9_commonDivisor_41 : decode cX9_commonDivisor 41 = .ok (.goto (-32), 3) := by decide +kernel
theorem dX9_commonDivisor_44 : decode cX9_commonDivisor 44 = .ok (.lload 4, 2) := by decide +kernel
theorem dX9_commonDivisor_46 : decode cX9_commonDivisor 46 = .ok (.lreturn, 1) := by decide +kernel
theorem dX9_determinant_0 : decode cX9_determinant 0 = .ok (.iload_n 1, 1) := by decide +kernel
theorem dX9_determinant_1 : decode cX9_determinant 1 = .ok (.ifCond .lt 11, 3) := by decide +kernel
theorem dX9_determinant_4 : decode cX9_determinant 4 = .ok (.iload_n 1, 1) := by decide +kernel
theorem dX9_determinant_5 : decode cX9_determinant 5 = .ok (.iload_n 1, 1) := by decide +kernel
theorem dX9_determinant_6 : decode cX9_determinant 6 = .ok (.imul, 1) := by decide +kernel
theorem dX9_determinant_7 : decode cX9_determinant 7 = .ok (.aload_n 0, 1) := by decide +kernel
theorem dX9_determinant_8 : decode cX9_determinant 8 = .ok (.arraylength, 1) := by decide +kernel
theorem dX9_determinant_9 : decode cX9_determinant 9 = .ok (.if_icmp .le 5, 3) := by decide +kernel
theorem dX9_determinant_12 : decode cX9_determinant 12 = .ok (.lconst 0, 1) := by decide +kernel
theorem dX9_determinant_13 : decode cX9_determinant 13 = .ok (.lreturn, 1) := by decide +kernel
theorem dX9_determinant_14 : decode cX9_determinant 14 = .ok (.lconst 1, 1) := by decide +kernel
theorem dX9_determinant_15 : decode cX9_determinant 15 = .ok (.lstore_n 2, 1) := by decide +kernel
theorem dX9_determinant_16 : decode cX9_determinant 16 = .ok (.iconst 0, 1) := by decide +kernel
theorem dX9_determinant_17 : decode cX9_determinant 17 = .ok (.istore 4, 2) := by decide +kernel
theorem dX9_determinant_19 : decode cX9_determinant 19 = .ok (.iload 4, 2) := by decide +kernel
theorem dX9_determinant_21 : decode cX9_determinant 21 = .ok (.iload_n 1, 1) := by decide +kernel
theorem dX9_determinant_22 : decode cX9_determinant 22 = .ok (.if_icmp .ge 35, 3) := by decide +kernel
theorem dX9_determinant_25 : decode cX9_determinant 25 = .ok (.aload_n 0, 1) := by decide +kernel
theorem dX9_determinant_26 : decode cX9_determinant 26 = .ok (.iload_n 1, 1) := by decide +kernel
theorem dX9_determinant_27 : decode cX9_determinant 27 = .ok (.iload 4, 2) := by decide +kernel
theorem dX9_determinant_29 : decode cX9_determinant 29 = .ok (.lload_n 2, 1) := by decide +kernel
theorem dX9_determinant_30 : decode cX9_determinant 30 = .ok (.invokestatic 19, 3) := by decide +kernel
theorem dX9_determinant_33 : decode cX9_determinant 33 = .ok (.aload_n 0, 1) := by decide +kernel
theorem dX9_determinant_34 : decode cX9_determinant 34 = .ok (.iload 4, 2) := by decide +kernel
theorem dX9_determinant_36 : decode cX9_determinant 36 = .ok (.iload_n 1, 1) := by decide +kernel
theorem dX9_determinant_37 : decode cX9_determinant 37 = .ok (.imul, 1) := by decide +kernel
theorem dX9_determinant_38 : decode cX9_determinant 38 = .ok (.iload 4, 2) := by decide +kernel
theorem dX9_determinant_40 : decode cX9_determinant 40 = .ok (.iadd, 1) := by decide +kernel
theorem dX9_determinant_41 : decode cX9_determinant 41 = .ok (.laload, 1) := by decide +kernel
theorem dX9_determinant_42 : decode cX9_determinant 42 = .ok (.lstore_n 2, 1) := by decide +kernel
theorem dX9_determinant_43 : decode cX9_determinant 43 = .ok (.lload_n 2, 1) := by decide +kernel
theorem dX9_determinant_44 : decode cX9_determinant 44 = .ok (.lconst 0, 1) := by decide +kernel
theorem dX9_determinant_45 : decode cX9_determinant 45 = .ok (.lcmp, 1) := by decide +kernel
theorem dX9_determinant_46 : decode cX9_determinant 46 = .ok (.ifCond .ne 5, 3) := by decide +kernel
theorem dX9_determinant_49 : decode cX9_determinant 49 = .ok (.lconst 0, 1) := by decide +kernel
theorem dX9_determinant_50 : decode cX9_determinant 50 = .ok (.lreturn, 1) := by decide +kernel
theorem dX9_determinant_51 : decode cX9_determinant 51 = .ok (.iinc 4 1, 3) := by decide +kernel
theorem dX9_determinant_54 : decode cX9_determinant 54 = .ok (.goto (-35), 3) := by decide +kernel
theorem dX9_determinant_57 : decode cX9_determinant 57 = .ok (.lload_n 2, 1) := by decide +kernel
theorem dX9_determinant_58 : decode cX9_determinant 58 = .ok (.lreturn, 1) := by decide +kernel
theorem dX9_clearBelow_0 : decode cX9_clearBelow 0 = .ok (.aload_n 0, 1) := by decide +kernel
theorem dX9_clearBelow_1 : decode cX9_clearBelow 1 = .ok (.iload_n 2, 1) := by decide +kernel
theorem dX9_clearBelow_2 : decode cX9_clearBelow 2 = .ok (.iload_n 1, 1) := by decide +kernel
theorem dX9_clearBelow_3 : decode cX9_clearBelow 3 = .ok (.imul, 1) := by decide +kernel
theorem dX9_clearBelow_4 : decode cX9_clearBelow 4 = .ok (.iload_n 2, 1) := by decide +kernel
theorem dX9_clearBelow_5 : decode cX9_clearBelow 5 = .ok (.iadd, 1) := by decide +kernel
theorem dX9_clearBelow_6 : decode cX9_clearBelow 6 = .ok (.laload, 1) := by decide +kernel
theorem dX9_clearBelow_7 : decode cX9_clearBelow 7 = .ok (.lstore 5, 2) := by decide +kernel
theorem dX9_clearBelow_9 : decode cX9_clearBelow 9 = .ok (.iload_n 2, 1) := by decide +kernel
theorem dX9_clearBelow_10 : decode cX9_clearBelow 10 = .ok (.iconst 1, 1) := by decide +kernel
theorem dX9_clearBelow_11 : decode cX9_clearBelow 11 = .ok (.iadd, 1) := by decide +kernel
theorem dX9_clearBelow_12 : decode cX9_clearBelow 12 = .ok (.istore 7, 2) := by decide +kernel
theorem dX9_clearBelow_14 : decode cX9_clearBelow 14 = .ok (.iload 7, 2) := by decide +kernel
theorem dX9_clearBelow_16 : decode cX9_clearBelow 16 = .ok (.iload_n 1, 1) := by decide +kernel
theorem dX9_clearBelow_17 : decode cX9_clearBelow 17 = .ok (.if_icmp .ge 81, 3) := by decide +kernel
theorem dX9_clearBelow_20 : decode cX9_clearBelow 20 = .ok (.iload_n 2, 1) := by decide +kernel
theorem dX9_clearBelow_21 : decode cX9_clearBelow 21 = .ok (.iconst 1, 1) := by decide +kernel
theorem dX9_clearBelow_22 : decode cX9_clearBelow 22 = .ok (.iadd, 1) := by decide +kernel
theorem dX9_clearBelow_23 : decode cX9_clearBelow 23 = .ok (.istore 8, 2) := by decide +kernel
theorem dX9_clearBelow_25 : decode cX9_clearBelow 25 = .ok (.iload 8, 2) := by decide +kernel
theorem dX9_clearBelow_27 : decode cX9_clearBelow 27 = .ok (.iload_n 1, 1) := by decide +kernel
theorem dX9_clearBelow_28 : decode cX9_clearBelow 28 = .ok (.if_icmp .ge 64, 3) := by decide +kernel
theorem dX9_clearBelow_31 : decode cX9_clearBelow 31 = .ok (.aload_n 0, 1) := by decide +kernel
theorem dX9_clearBelow_32 : decode cX9_clearBelow 32 = .ok (.iload 7, 2) := by decide +kernel
theorem dX9_clearBelow_34 : decode cX9_clearBelow 34 = .ok (.iload_n 1, 1) := by decide +kernel
theorem dX9_clearBelow_35 : decode cX9_clearBelow 35 = .ok (.imul, 1) := by decide +kernel
theorem dX9_clearBelow_36 : decode cX9_clearBelow 36 = .ok (.iload 8, 2) := by decide +kernel
theorem dX9_clearBelow_38 : decode cX9_clearBelow 38 = .ok (.iadd, 1) := by decide +kernel
theorem dX9_clearBelow_39 : decode cX9_clearBelow 39 = .ok (.laload, 1) := by decide +kernel
theorem dX9_clearBelow_40 : decode cX9_clearBelow 40 = .ok (.lload 5, 2) := by decide +kernel
theorem dX9_clearBelow_42 : decode cX9_clearBelow 42 = .ok (.lmul, 1) := by decide +kernel
theorem dX9_clearBelow_43 : decode cX9_clearBelow 43 = .ok (.aload_n 0, 1) := by decide +kernel
theorem dX9_clearBelow_44 : decode cX9_clearBelow 44 = .ok (.iload 7, 2) := by decide +kernel
theorem dX9_clearBelow_46 : decode cX9_clearBelow 46 = .ok (.iload_n 1, 1) := by decide +kernel
theorem dX9_clearBelow_47 : decode cX9_clearBelow 47 = .ok (.imul, 1) := by decide +kernel
theorem dX9_clearBelow_48 : decode cX9_clearBelow 48 = .ok (.iload_n 2, 1) := by decide +kernel
theorem dX9_clearBelow_49 : decode cX9_clearBelow 49 = .ok (.iadd, 1) := by decide +kernel
theorem dX9_clearBelow_50 : decode cX9_clearBelow 50 = .ok (.laload, 1) := by decide +kernel
theorem dX9_clearBelow_51 : decode cX9_clearBelow 51 = .ok (.aload_n 0, 1) := by decide +kernel
theorem dX9_clearBelow_52 : decode cX9_clearBelow 52 = .ok (.iload_n 2, 1) := by decide +kernel
theorem dX9_clearBelow_53 : decode cX9_clearBelow 53 = .ok (.iload_n 1, 1) := by decide +kernel
theorem dX9_clearBelow_54 : decode cX9_clearBelow 54 = .ok (.imul, 1) := by decide +kernel
theorem dX9_clearBelow_55 : decode cX9_clearBelow 55 = .ok (.iload 8, 2) := by decide +kernel
theorem dX9_clearBelow_57 : decode cX9_clearBelow 57 = .ok (.iadd, 1) := by decide +kernel
theorem dX9_clearBelow_58 : decode cX9_clearBelow 58 = .ok (.laload, 1) := by decide +kernel
theorem dX9_clearBelow_59 : decode cX9_clearBelow 59 = .ok (.lmul, 1) := by decide +kernel
theorem dX9_clearBelow_60 : decode cX9_clearBelow 60 = .ok (.lsub, 1) := by decide +kernel
theorem dX9_clearBelow_61 : decode cX9_clearBelow 61 = .ok (.lstore 9, 2) := by decide +kernel
theorem dX9_clearBelow_63 : decode cX9_clearBelow 63 = .ok (.aload_n 0, 1) := by decide +kernel
theorem dX9_clearBelow_64 : decode cX9_clearBelow 64 = .ok (.iload 7, 2) := by decide +kernel
theorem dX9_clearBelow_66 : decode cX9_clearBelow 66 = .ok (.iload_n 1, 1) := by decide +kernel
theorem dX9_clearBelow_67 : decode cX9_clearBelow 67 = .ok (.imul, 1) := by decide +kernel
theorem dX9_clearBelow_68 : decode cX9_clearBelow 68 = .ok (.iload 8, 2) := by decide +kernel
theorem dX9_clearBelow_70 : decode cX9_clearBelow 70 = .ok (.iadd, 1) := by decide +kernel
theorem dX9_clearBelow_71 : decode cX9_clearBelow 71 = .ok (.lload_n 3, 1) := by decide +kernel
theorem dX9_clearBelow_72 : decode cX9_clearBelow 72 = .ok (.lconst 0, 1) := by decide +kernel
theorem dX9_clearBelow_73 : decode cX9_clearBelow 73 = .ok (.lcmp, 1) := by decide +kernel
theorem dX9_clearBelow_74 : decode cX9_clearBelow 74 = .ok (.ifCond .ne 7, 3) := by decide +kernel
theorem dX9_clearBelow_77 : decode cX9_clearBelow 77 = .ok (.lconst 0, 1) := by decide +kernel
theorem dX9_clearBelow_78 : decode cX9_clearBelow 78 = .ok (.goto 7, 3) := by decide +kernel
theorem dX9_clearBelow_81 : decode cX9_clearBelow 81 = .ok (.lload 9, 2) := by decide +kernel
theorem dX9_clearBelow_83 : decode cX9_clearBelow 83 = .ok (.lload_n 3, 1) := by decide +kernel
theorem dX9_clearBelow_84 : decode cX9_clearBelow 84 = .ok (.ldiv, 1) := by decide +kernel
theorem dX9_clearBelow_85 : decode cX9_clearBelow 85 = .ok (.lastore, 1) := by decide +kernel
theorem dX9_clearBelow_86 : decode cX9_clearBelow 86 = .ok (.iinc 8 1, 3) := by decide +kernel
theorem dX9_clearBelow_89 : decode cX9_clearBelow 89 = .ok (.goto (-64), 3) := by decide +kernel
theorem dX9_clearBelow_92 : decode cX9_clearBelow 92 = .ok (.iinc 7 1, 3) := by decide +kernel
theorem dX9_clearBelow_95 : decode cX9_clearBelow 95 = .ok (.goto (-81), 3) := by decide +kernel
theorem dX9_clearBelow_98 : decode cX9_clearBelow 98 = .ok (.return_, 1) := by decide +kernel
theorem dX10_init_0 : decode cX10_init 0 = .ok (.aload_n 0, 1) := by decide +kernel
theorem dX10_init_1 : decode cX10_init 1 = .ok (.invokespecial 1, 3) := by decide +kernel
theorem dX10_init_4 : decode cX10_init 4 = .ok (.aload_n 0, 1) := by decide +kernel
theorem dX10_init_5 : decode cX10_init 5 = .ok (.sipush 128, 3) := by decide +kernel
theorem dX10_init_8 : decode cX10_init 8 = .ok (.newarray .long, 2) := by decide +kernel
theorem dX10_init_10 : decode cX10_init 10 = .ok (.putfield 9, 3) := by decide +kernel
theorem dX10_init_13 : decode cX10_init 13 = .ok (.aload_n 0, 1) := by decide +kernel
theorem dX10_init_14 : decode cX10_init 14 = .ok (.aload_n 1, 1) := by decide +kernel
theorem dX10_init_15 : decode cX10_init 15 = .ok (.putfield 15, 3) := by decide +kernel
theorem dX10_init_18 : decode cX10_init 18 = .ok (.return_, 1) := by decide +kernel
theorem dX10_forget_0 : decode cX10_forget 0 = .ok (.aload_n 0, 1) := by decide +kernel
theorem dX10_forget_1 : decode cX10_forget 1 = .ok (.iconst 0, 1) := by decide +kernel
theorem dX10_forget_2 : decode cX10_forget 2 = .ok (.putfield 19, 3) := by decide +kernel
theorem dX10_forget_5 : decode cX10_forget 5 = .ok (.return_, 1) := by decide +kernel
theorem dX10_worthOf_0 : decode cX10_worthOf 0 = .ok (.aload_n 0, 1) := by decide +kernel
theorem dX10_worthOf_1 : decode cX10_worthOf 1 = .ok (.invokevirtual 23, 3) := by decide +kernel
theorem dX10_worthOf_4 : decode cX10_worthOf 4 = .ok (.aload_n 0, 1) := by decide +kernel
theorem dX10_worthOf_5 : decode cX10_worthOf 5 = .ok (.aload_n 0, 1) := by decide +kernel
theorem dX10_worthOf_6 : decode cX10_worthOf 6 = .ok (.getfield 15, 3) := by decide +kernel
theorem dX10_worthOf_9 : decode cX10_worthOf 9 = .ok (.invokevirtual 26, 3) := by decide +kernel
theorem dX10_worthOf_12 : decode cX10_worthOf 12 = .ok (.iload_n 1, 1) := by decide +kernel
theorem dX10_worthOf_13 : decode cX10_worthOf 13 = .ok (.invokevirtual 30, 3) := by decide +kernel
theorem dX10_worthOf_16 : decode cX10_worthOf 16 = .ok (.lreturn, 1) := by decide +kernel
theorem dX10_sum_0 : decode cX10_sum 0 = .ok (.aload_n 0, 1) := by decide +kernel
theorem dX10_sum_1 : decode cX10_sum 1 = .ok (.invokevirtual 23, 3) := by decide +kernel
theorem dX10_sum_4 : decode cX10_sum 4 = .ok (.lconst 0, 1) := by decide +kernel
theorem dX10_sum_5 : decode cX10_sum 5 = .ok (.lstore_n 3, 1) := by decide +kernel
theorem dX10_sum_6 : decode cX10_sum 6 = .ok (.iconst 0, 1) := by decide +kernel
theorem dX10_sum_7 : decode cX10_sum 7 = .ok (.istore 5, 2) := by decide +kernel
theorem dX10_sum_9 : decode cX10_sum 9 = .ok (.iload 5, 2) := by decide +kernel
theorem dX10_sum_11 : decode cX10_sum 11 = .ok (.iconst 1, 1) := by decide +kernel
theorem dX10_sum_12 : decode cX10_sum 12 = .ok (.iload_n 1, 1) := by decide +kernel
theorem dX10_sum_13 : decode cX10_sum 13 = .ok (.ishl, 1) := by decide +kernel
theorem dX10_sum_14 : decode cX10_sum 14 = .ok (.if_icmp .ge 27, 3) := by decide +kernel
theorem dX10_sum_17 : decode cX10_sum 17 = .ok (.iload 5, 2) := by decide +kernel
theorem dX10_sum_19 : decode cX10_sum 19 = .ok (.iload_n 2, 1) := by decide +kernel
theorem dX10_sum_20 : decode cX10_sum 20 = .ok (.iand, 1) := by decide +kernel
theorem dX10_sum_21 : decode cX10_sum 21 = .ok (.iload_n 2, 1) := by decide +kernel
theorem dX10_sum_22 : decode cX10_sum 22 = .ok (.if_icmp .ne 13, 3) := by decide +kernel
theorem dX10_sum_25 : decode cX10_sum 25 = .ok (.lload_n 3, 1) := by decide +kernel
theorem dX10_sum_26 : decode cX10_sum 26 = .ok (.aload_n 0, 1) := by decide +kernel
theorem dX10_sum_27 : decode cX10_sum 27 = .ok (.iload_n 1, 1) := by decide +kernel
theorem dX10_sum_28 : decode cX10_sum 28 = .ok (.iload 5, 2) := by decide +kernel
theorem dX10_sum_30 : decode cX10_sum 30 = .ok (.invokevirtual 30, 3) := by decide +kernel
theorem dX10_sum_33 : decode cX10_sum 33 = .ok (.ladd, 1) := by decide +kernel
theorem dX10_sum_34 : decode cX10_sum 34 = .ok (.lstore_n 3, 1) := by decide +kernel
theorem dX10_sum_35 : decode cX10_sum 35 = .ok (.iinc 5 1, 3) := by decide +kernel
theorem dX10_sum_38 : decode cX10_sum 38 = .ok (.goto (-29), 3) := by decide +kernel
theorem dX10_sum_41 : decode cX10_sum 41 = .ok (.lload_n 3, 1) := by decide +kernel
theorem dX10_sum_42 : decode cX10_sum 42 = .ok (.lreturn, 1) := by decide +kernel
theorem dX10_at_0 : decode cX10_at 0 = .ok (.iconst 1, 1) := by decide +kernel
theorem dX10_at_1 : decode cX10_at 1 = .ok (.iload_n 1, 1) := by decide +kernel
theorem dX10_at_2 : decode cX10_at 2 = .ok (.ishl, 1) := by decide +kernel
theorem dX10_at_3 : decode cX10_at 3 = .ok (.iload_n 2, 1) := by decide +kernel
theorem dX10_at_4 : decode cX10_at 4 = .ok (.ior, 1) := by decide +kernel
theorem dX10_at_5 : decode cX10_at 5 = .ok (.istore_n 3, 1) := by decide +kernel
theorem dX10_at_6 : decode cX10_at 6 = .ok (.iload_n 3, 1) := by decide +kernel
theorem dX10_at_7 : decode cX10_at 7 = .ok (.ifCond .lt 21, 3) := by decide +kernel
theorem dX10_at_10 : decode cX10_at 10 = .ok (.iload_n 3, 1) := by decide +kernel
theorem dX10_at_11 : decode cX10_at 11 = .ok (.aload_n 0, 1) := by decide +kernel
theorem dX10_at_12 : decode cX10_at 12 = .ok (.getfield 9, 3) := by decide +kernel
theorem dX10_at_15 : decode cX10_at 15 = .ok (.arraylength, 1) := by decide +kernel
theorem dX10_at_16 : decode cX10_at 16 = .ok (.if_icmp .ge 12, 3) := by decide +kernel
theorem dX10_at_19 : decode cX10_at 19 = .ok (.aload_n 0, 1) := by decide +kernel
theorem dX10_at_20 : decode cX10_at 20 = .ok (.getfield 9, 3) := by decide +kernel
theorem dX10_at_23 : decode cX10_at 23 = .ok (.iload_n 3, 1) := by decide +kernel
theorem dX10_at_24 : decode cX10_at 24 = .ok (.laload, 1) := by decide +kernel
theorem dX10_at_25 : decode cX10_at 25 = .ok (.goto 4, 3) := by decide +kernel
theorem dX10_at_28 : decode cX10_at 28 = .ok (.lconst 0, 1) := by decide +kernel
theorem dX10_at_29 : decode cX10_at 29 = .ok (.lreturn, 1) := by decide +kernel
theorem dX10_find_0 : decode cX10_find 0 = .ok (.aload_n 0, 1) := by decide +kernel
theorem dX10_find_1 : decode cX10_find 1 = .ok (.getfield 19, 3) := by decide +kernel
theorem dX10_find_4 : decode cX10_find 4 = .ok (.ifCond .eq 4, 3) := by decide +kernel
theorem dX10_find_7 : decode cX10_find 7 = .ok (.return_, 1) := by decide +kernel
theorem dX10_find_8 : decode cX10_find 8 = .ok (.aload_n 0, 1) := by decide +kernel
theorem dX10_find_9 : decode cX10_find 9 = .ok (.iconst 1, 1) := by decide +kernel
theorem dX10_find_10 : decode cX10_find 10 = .ok (.putfield 19, 3) := by decide +kernel
theorem dX10_find_13 : decode cX10_find 13 = .ok (.iconst 0, 1) := by decide +kernel
theorem dX10_find_14 : decode cX10_find 14 = .ok (.istore_n 1, 1) := by decide +kernel
theorem dX10_find_15 : decode cX10_find 15 = .ok (.iload_n 1, 1) := by decide +kernel
theorem dX10_find_16 : decode cX10_find 16 = .ok (.aload_n 0, 1) := by decide +kernel
theorem dX10_find_17 : decode cX10_find 17 = .ok (.getfield 15, 3) := by decide +kernel
theorem dX10_find_20 : decode cX10_find 20 = .ok (.invokevirtual 26, 3) := by decide +kernel
theorem dX10_find_23 : decode cX10_find 23 = .ok (.if_icmp .gt 51, 3) := by decide +kernel
theorem dX10_find_26 : decode cX10_find 26 = .ok (.iconst 0, 1) := by decide +kernel
theorem dX10_find_27 : decode cX10_find 27 = .ok (.istore_n 2, 1) := by decide +kernel
theorem dX10_find_28 : decode cX10_find 28 = .ok (.iload_n 2, 1) := by decide +kernel
theorem dX10_find_29 : decode cX10_find 29 = .ok (.iconst 1, 1) := by decide +kernel
theorem dX10_find_30 : decode cX10_find 30 = .ok (.iload_n 1, 1) := by decide +kernel
theorem dX10_find_31 : decode cX10_find 31 = .ok (.ishl, 1) := by decide +kernel
theorem dX10_find_32 : decode cX10_find 32 = .ok (.if_icmp .ge 36, 3) := by decide +kernel
theorem dX10_find_35 : decode cX10_find 35 = .ok (.iconst 1, 1) := by decide +kernel
theorem dX10_find_36 : decode cX10_find 36 = .ok (.iload_n 1, 1) := by decide +kernel
theorem dX10_find_37 : decode cX10_find 37 = .ok (.ishl, 1) := by decide +kernel
theorem dX10_find_38 : decode cX10_find 38 = .ok (.iload_n 2, 1) := by decide +kernel
theorem dX10_find_39 : decode cX10_find 39 = .ok (.ior, 1) := by decide +kernel
theorem dX10_find_40 : decode cX10_find 40 = .ok (.istore_n 3, 1) := by decide +kernel
theorem dX10_find_41 : decode cX10_find 41 = .ok (.iload_n 3, 1) := by decide +kernel
theorem dX10_find_42 : decode cX10_find 42 = .ok (.aload_n 0, 1) := by decide +kernel
theorem dX10_find_43 : decode cX10_find 43 = .ok (.getfield 9, 3) := by decide +kernel
theorem dX10_find_46 : decode cX10_find 46 = .ok (.arraylength, 1) := by decide +kernel
theorem dX10_find_47 : decode cX10_find 47 = .ok (.if_icmp .ge 15, 3) := by decide +kernel
theorem dX10_find_50 : decode cX10_find 50 = .ok (.aload_n 0, 1) := by decide +kernel
theorem dX10_find_51 : decode cX10_find 51 = .ok (.getfield 9, 3) := by decide +kernel
theorem dX10_find_54 : decode cX10_find 54 = .ok (.iload_n 3, 1) := by decide +kernel
theorem dX10_find_55 : decode cX10_find 55 = .ok (.aload_n 0, 1) := by decide +kernel
theorem dX10_find_56 : decode cX10_find 56 = .ok (.iload_n 1, 1) := by decide +kernel
theorem dX10_find_57 : decode cX10_find 57 = .ok (.iload_n 2, 1) := by decide +kernel
theorem dX10_find_58 : decode cX10_find 58 = .ok (.invokevirtual 34, 3) := by decide +kernel
theorem dX10_find_61 : decode cX10_find 61 = .ok (.lastore, 1) := by decide +kernel
theorem dX10_find_62 : decode cX10_find 62 = .ok (.iinc 2 1, 3) := by decide +kernel
theorem dX10_find_65 : decode cX10_find 65 = .ok (.goto (-37), 3) := by decide +kernel
theorem dX10_find_68 : decode cX10_find 68 = .ok (.iinc 1 1, 3) := by decide +kernel
theorem dX10_find_71 : decode cX10_find 71 = .ok (.goto (-56), 3) := by decide +kernel
theorem dX10_find_74 : decode cX10_find 74 = .ok (.return_, 1) := by decide +kernel
theorem dX10_fromShorter_0 : decode cX10_fromShorter 0 = .ok (.aload_n 0, 1) := by decide +kernel
theorem dX10_fromShorter_1 : decode cX10_fromShorter 1 = .ok (.getfield 15, 3) := by decide +kernel
theorem dX10_fromShorter_4 : decode cX10_fromShorter 4 = .ok (.iconst 4, 1) := by decide +kernel
theorem dX10_fromShorter_5 : decode cX10_fromShorter 5 = .ok (.invokevirtual 37, 3) := by decide +kernel
theorem dX10_fromShorter_8 : decode cX10_fromShorter 8 = .ok (.i2l, 1) := by decide +kernel
theorem dX10_fromShorter_9 : decode cX10_fromShorter 9 = .ok (.lstore_n 3, 1) := by decide +kernel
theorem dX10_fromShorter_10 : decode cX10_fromShorter 10 = .ok (.aload_n 0, 1) := by decide +kernel
theorem dX10_fromShorter_11 : decode cX10_fromShorter 11 = .ok (.getfield 15, 3) := by decide +kernel
theorem dX10_fromShorter_14 : decode cX10_fromShorter 14 = .ok (.bipush 6, 2) := by decide +kernel
theorem dX10_fromShorter_16 : decode cX10_fromShorter 16 = .ok (.invokevirtual 37, 3) := by decide +kernel
theorem dX10_fromShorter_19 : decode cX10_fromShorter 19 = .ok (.i2l, 1) := by decide +kernel
theorem dX10_fromShorter_20 : decode cX10_fromShorter 20 = .ok (.lstore 5, 2) := by decide +kernel
theorem dX10_fromShorter_22 : decode cX10_fromShorter 22 = .ok (.iload_n 1, 1) := by decide +kernel
theorem dX10_fromShorter_23 : decode cX10_fromShorter 23 = .ok (.ifCond .ne 7, 3) := by decide +kernel
theorem dX10_fromShorter_26 : decode cX10_fromShorter 26 = .ok (.iconst 0, 1) := by decide +kernel
theorem dX10_fromShorter_27 : decode cX10_fromShorter 27 = .ok (.goto 18, 3) := by decide +kernel
theorem dX10_fromShorter_30 : decode cX10_fromShorter 30 = .ok (.iload_n 2, 1) := by decide +kernel
theorem dX10_fromShorter_31 : decode cX10_fromShorter 31 = .ok (.iload_n 2, 1) := by decide +kernel
theorem dX10_fromShorter_32 : decode cX10_fromShorter 32 = .ok (.iconst 1, 1) := by decide +kernel
theorem dX10_fromShorter_33 : decode cX10_fromShorter 33 = .ok (.ishr, 1) := by decide +kernel
theorem dX10_fromShorter_34 : decode cX10_fromShorter 34 = .ok (.iconst (-1), 1) := by decide +kernel
theorem dX10_fromShorter_35 : decode cX10_fromShorter 35 = .ok (.ixor, 1) := by decide +kernel
theorem dX10_fromShorter_36 : decode cX10_fromShorter 36 = .ok (.iand, 1) := by decide +kernel
theorem dX10_fromShorter_37 : decode cX10_fromShorter 37 = .ok (.iconst 1, 1) := by decide +kernel
theorem dX10_fromShorter_38 : decode cX10_fromShorter 38 = .ok (.iload_n 1, 1) := by decide +kernel
theorem dX10_fromShorter_39 : decode cX10_fromShorter 39 = .ok (.iconst 1, 1) := by decide +kernel
theorem dX10_fromShorter_40 : decode cX10_fromShorter 40 = .ok (.isub, 1) := by decide +kernel
theorem dX10_fromShorter_41 : decode cX10_fromShorter 41 = .ok (.ishl, 1) := by decide +kernel
theorem dX10_fromShorter_42 : decode cX10_fromShorter 42 = .ok (.iconst 1, 1) := by decide +kernel
theorem dX10_fromShorter_43 : decode cX10_fromShorter 43 = .ok (.isub, 1) := by decide +kernel
theorem dX10_fromShorter_44 : decode cX10_fromShorter 44 = .ok (.iand, 1) := by decide +kernel
theorem dX10_fromShorter_45 : decode cX10_fromShorter 45 = .ok (.istore 7, 2) := by decide +kernel
theorem dX10_fromShorter_47 : decode cX10_fromShorter 47 = .ok (.iload 7, 2) := by decide +kernel
theorem dX10_fromShorter_49 : decode cX10_fromShorter 49 = .ok (.ifCond .ne 26, 3) := by decide +kernel
theorem dX10_fromShorter_52 : decode cX10_fromShorter 52 = .ok (.iload_n 2, 1) := by decide +kernel
theorem dX10_fromShorter_53 : decode cX10_fromShorter 53 = .ok (.invokestatic 41, 3) := by decide +kernel
theorem dX10_fromShorter_56 : decode cX10_fromShorter 56 = .ok (.istore 8, 2) := by decide +kernel
theorem dX10_fromShorter_58 : decode cX10_fromShorter 58 = .ok (.lload_n 3, 1) := by decide +kernel
theorem dX10_fromShorter_59 : decode cX10_fromShorter 59 = .ok (.iload 8, 2) := by decide +kernel
theorem dX10_fromShorter_61 : decode cX10_fromShorter 61 = .ok (.invokestatic 46, 3) := by decide +kernel
theorem dX10_fromShorter_64 : decode cX10_fromShorter 64 = .ok (.lload 5, 2) := by decide +kernel
theorem dX10_fromShorter_66 : decode cX10_fromShorter 66 = .ok (.iload_n 1, 1) := by decide +kernel
theorem dX10_fromShorter_67 : decode cX10_fromShorter 67 = .ok (.iload 8, 2) := by decide +kernel
theorem dX10_fromShorter_69 : decode cX10_fromShorter 69 = .ok (.isub, 1) := by decide +kernel
theorem dX10_fromShorter_70 : decode cX10_fromShorter 70 = .ok (.invokestatic 46, 3) := by decide +kernel
theorem dX10_fromShorter_73 : decode cX10_fromShorter 73 = .ok (.lmul, 1) := by decide +kernel
theorem dX10_fromShorter_74 : decode cX10_fromShorter 74 = .ok (.lreturn, 1) := by decide +kernel
theorem dX10_fromShorter_75 : decode cX10_fromShorter 75 = .ok (.iload 7, 2) := by decide +kernel
theorem dX10_fromShorter_77 : decode cX10_fromShorter 77 = .ok (.invokestatic 50, 3) := by decide +kernel
theorem dX10_fromShorter_80 : decode cX10_fromShorter 80 = .ok (.istore 8, 2) := by decide +kernel
theorem dX10_fromShorter_82 : decode cX10_fromShorter 82 = .ok (.lload_n 3, 1) := by decide +kernel
theorem dX10_fromShorter_83 : decode cX10_fromShorter 83 = .ok (.lload 5, 2) := by decide +kernel
theorem dX10_fromShorter_85 : decode cX10_fromShorter 85 = .ok (.lmul, 1) := by decide +kernel
theorem dX10_fromShorter_86 : decode cX10_fromShorter 86 = .ok (.aload_n 0, 1) := by decide +kernel
theorem dX10_fromShorter_87 : decode cX10_fromShorter 87 = .ok (.iload_n 1, 1) := by decide +kernel
theorem dX10_fromShorter_88 : decode cX10_fromShorter 88 = .ok (.iconst 1, 1) := by decide +kernel
theorem dX10_fromShorter_89 : decode cX10_fromShorter 89 = .ok (.isub, 1) := by decide +kernel
theorem dX10_fromShorter_90 : decode cX10_fromShorter 90 = .ok (.iload_n 2, 1) := by decide +kernel
theorem dX10_fromShorter_91 : decode cX10_fromShorter 91 = .ok (.iload 8, 2) := by decide +kernel
theorem dX10_fromShorter_93 : decode cX10_fromShorter 93 = .ok (.invokestatic 53, 3) := by decide +kernel
theorem dX10_fromShorter_96 : decode cX10_fromShorter 96 = .ok (.invokevirtual 30, 3) := by decide +kernel
theorem dX10_fromShorter_99 : decode cX10_fromShorter 99 = .ok (.aload_n 0, 1) := by decide +kernel
theorem dX10_fromShorter_100 : decode cX10_fromShorter 100 = .ok (.iload_n 1, 1) := by decide +kernel
theorem dX10_fromShorter_101 : decode cX10_fromShorter 101 = .ok (.iconst 1, 1) := by decide +kernel
theorem dX10_fromShorter_102 : decode cX10_fromShorter 102 = .ok (.isub, 1) := by decide +kernel
theorem dX10_fromShorter_103 : decode cX10_fromShorter 103 = .ok (.iload_n 2, 1) := by decide +kernel
theorem dX10_fromShorter_104 : decode cX10_fromShorter 104 = .ok (.iload 8, 2) := by decide +kernel
theorem dX10_fromShorter_106 : decode cX10_fromShorter 106 = .ok (.iconst 1, 1) := by decide +kernel
theorem dX10_fromShorter_107 : decode cX10_fromShorter 107 = .ok (.iadd, 1) := by decide +kernel
theorem dX10_fromShorter_108 : decode cX10_fromShorter 108 = .ok (.invokestatic 53, 3) := by decide +kernel
theorem dX10_fromShorter_111 : decode cX10_fromShorter 111 = .ok (.invokevirtual 30, 3) := by decide +kernel
theorem dX10_fromShorter_114 : decode cX10_fromShorter 114 = .ok (.ladd, 1) := by decide +kernel
theorem dX10_fromShorter_115 : decode cX10_fromShorter 115 = .ok (.lmul, 1) := by decide +kernel
theorem dX10_fromShorter_116 : decode cX10_fromShorter 116 = .ok (.lreturn, 1) := by decide +kernel
theorem dX10_without_0 : decode cX10_without 0 = .ok (.iload_n 0, 1) := by decide +kernel
theorem dX10_without_1 : decode cX10_without 1 = .ok (.iconst 1, 1) := by decide +kernel
theorem dX10_without_2 : decode cX10_without 2 = .ok (.iload_n 1, 1) := by decide +kernel
theorem dX10_without_3 : decode cX10_without 3 = .ok (.ishl, 1) := by decide +kernel
theorem dX10_without_4 : decode cX10_without 4 = .ok (.iconst 1, 1) := by decide +kernel
theorem dX10_without_5 : decode cX10_without 5 = .ok (.isub, 1) := by decide +kernel
theorem dX10_without_6 : decode cX10_without 6 = .ok (.iand, 1) := by decide +kernel
theorem dX10_without_7 : decode cX10_without 7 = .ok (.iload_n 0, 1) := by decide +kernel
theorem dX10_without_8 : decode cX10_without 8 = .ok (.iload_n 1, 1) := by decide +kernel
theorem dX10_without_9 : decode cX10_without 9 = .ok (.iconst 1, 1) := by decide +kernel
theorem dX10_without_10 : decode cX10_without 10 = .ok (.iadd, 1) := by decide +kernel
theorem dX10_without_11 : decode cX10_without 11 = .ok (.ishr, 1) := by decide +kernel
theorem dX10_without_12 : decode cX10_without 12 = .ok (.iload_n 1, 1) := by decide +kernel
theorem dX10_without_13 : decode cX10_without 13 = .ok (.ishl, 1) := by decide +kernel
theorem dX10_without_14 : decode cX10_without 14 = .ok (.ior, 1) := by decide +kernel
theorem dX10_without_15 : decode cX10_without 15 = .ok (.ireturn, 1) := by decide +kernel
theorem dX10_power_0 : decode cX10_power 0 = .ok (.lconst 1, 1) := by decide +kernel
theorem dX10_power_1 : decode cX10_power 1 = .ok (.lstore_n 3, 1) := by decide +kernel
theorem dX10_power_2 : decode cX10_power 2 = .ok (.iconst 0, 1) := by decide +kernel
theorem dX10_power_3 : decode cX10_power 3 = .ok (.istore 5, 2) := by decide +kernel
theorem dX10_power_5 : decode cX10_power 5 = .ok (.iload 5, 2) := by decide +kernel
theorem dX10_power_7 : decode cX10_power 7 = .ok (.iload_n 2, 1) := by decide +kernel
theorem dX10_power_8 : decode cX10_power 8 = .ok (.if_icmp .ge 13, 3) := by decide +kernel
theorem dX10_power_11 : decode cX10_power 11 = .ok (.lload_n 3, 1) := by decide +kernel
theorem dX10_power_12 : decode cX10_power 12 = .ok (.lload_n 0, 1) := by decide +kernel
theorem dX10_power_13 : decode cX10_power 13 = .ok (.lmul, 1) := by decide +kernel
theorem dX10_power_14 : decode cX10_power 14 = .ok (.lstore_n 3, 1) := by decide +kernel
theorem dX10_power_15 : decode cX10_power 15 = .ok (.iinc 5 1, 3) := by decide +kernel
theorem dX10_power_18 : decode cX10_power 18 = .ok (.goto (-13), 3) := by decide +kernel
theorem dX10_power_21 : decode cX10_power 21 = .ok (.lload_n 3, 1) := by decide +kernel
theorem dX10_power_22 : decode cX10_power 22 = .ok (.lreturn, 1) := by decide +kernel
theorem dX11_init_0 : decode cX11_init 0 = .ok (.aload_n 0, 1) := by decide +kernel
theorem dX11_init_1 : decode cX11_init 1 = .ok (.invokespecial 1, 3) := by decide +kernel
theorem dX11_init_4 : decode cX11_init 4 = .ok (.aload_n 0, 1) := by decide +kernel
theorem dX11_init_5 : decode cX11_init 5 = .ok (.new 7, 3) := by decide +kernel
theorem dX11_init_8 : decode cX11_init 8 = .ok (.dup, 1) := by decide +kernel
theorem dX11_init_9 : decode cX11_init 9 = .ok (.invokespecial 9, 3) := by decide +kernel
theorem dX11_init_12 : decode cX11_init 12 = .ok (.putfield 10, 3) := by decide +kernel
theorem dX11_init_15 : decode cX11_init 15 = .ok (.aload_n 0, 1) := by decide +kernel
theorem dX11_init_16 : decode cX11_init 16 = .ok (.new 16, 3) := by decide +kernel
theorem dX11_init_19 : decode cX11_init 19 = .ok (.dup, 1) := by decide +kernel
theorem dX11_init_20 : decode cX11_init 20 = .ok (.invokespecial 18, 3) := by decide +kernel
theorem dX11_init_23 : decode cX11_init 23 = .ok (.putfield 19, 3) := by decide +kernel
theorem dX11_init_26 : decode cX11_init 26 = .ok (.aload_n 0, 1) := by decide +kernel
theorem dX11_init_27 : decode cX11_init 27 = .ok (.new 23, 3) := by decide +kernel
theorem dX11_init_30 : decode cX11_init 30 = .ok (.dup, 1) := by decide +kernel
theorem dX11_init_31 : decode cX11_init 31 = .ok (.aload_n 0, 1) := by decide +kernel
theorem dX11_init_32 : decode cX11_init 32 = .ok (.getfield 10, 3) := by decide +kernel
theorem dX11_init_35 : decode cX11_init 35 = .ok (.invokespecial 25, 3) := by decide +kernel
theorem dX11_init_38 : decode cX11_init 38 = .ok (.putfield 28, 3) := by decide +kernel
theorem dX11_init_41 : decode cX11_init 41 = .ok (.aload_n 0, 1) := by decide +kernel
theorem dX11_init_42 : decode cX11_init 42 = .ok (.new 32, 3) := by decide +kernel
theorem dX11_init_45 : decode cX11_init 45 = .ok (.dup, 1) := by decide +kernel
theorem dX11_init_46 : decode cX11_init 46 = .ok (.aload_n 0, 1) := by decide +kernel
theorem dX11_init_47 : decode cX11_init 47 = .ok (.getfield 19, 3) := by decide +kernel
theorem dX11_init_50 : decode cX11_init 50 = .ok (.invokespecial 34, 3) := by decide +kernel
theorem dX11_init_53 : decode cX11_init 53 = .ok (.putfield 37, 3) := by decide +kernel
theorem dX11_init_56 : decode cX11_init 56 = .ok (.aload_n 0, 1) := by decide +kernel
theorem dX11_init_57 : decode cX11_init 57 = .ok (.new 41, 3) := by decide +kernel
theorem dX11_init_60 : decode cX11_init 60 = .ok (.dup, 1) := by decide +kernel
theorem dX11_init_61 : decode cX11_init 61 = .ok (.aload_n 0, 1) := by decide +kernel
theorem dX11_init_62 : decode cX11_init 62 = .ok (.getfield 19, 3) := by decide +kernel
theorem dX11_init_65 : decode cX11_init 65 = .ok (.invokespecial 43, 3) := by decide +kernel
theorem dX11_init_68 : decode cX11_init 68 = .ok (.putfield 44, 3) := by decide +kernel
theorem dX11_init_71 : decode cX11_init 71 = .ok (.aload_n 0, 1) := by decide +kernel
theorem dX11_init_72 : decode cX11_init 72 = .ok (.new 48, 3) := by decide +kernel
theorem dX11_init_75 : decode cX11_init 75 = .ok (.dup, 1) := by decide +kernel
theorem dX11_init_76 : decode cX11_init 76 = .ok (.aload_n 0, 1) := by decide +kernel
theorem dX11_init_77 : decode cX11_init 77 = .ok (.getfield 19, 3) := by decide +kernel
theorem dX11_init_80 : decode cX11_init 80 = .ok (.invokespecial 50, 3) := by decide +kernel
theorem dX11_init_83 : decode cX11_init 83 = .ok (.putfield 51, 3) := by decide +kernel
theorem dX11_init_86 : decode cX11_init 86 = .ok (.aload_n 0, 1) := by decide +kernel
theorem dX11_init_87 : decode cX11_init 87 = .ok (.new 55, 3) := by decide +kernel
theorem dX11_init_90 : decode cX11_init 90 = .ok (.dup, 1) := by decide +kernel
theorem dX11_init_91 : decode cX11_init 91 = .ok (.invokespecial 57, 3) := by decide +kernel
theorem dX11_init_94 : decode cX11_init 94 = .ok (.putfield 58, 3) := by decide +kernel
theorem dX11_init_97 : decode cX11_init 97 = .ok (.aload_n 0, 1) := by decide +kernel
theorem dX11_init_98 : decode cX11_init 98 = .ok (.new 62, 3) := by decide +kernel
theorem dX11_init_101 : decode cX11_init 101 = .ok (.dup, 1) := by decide +kernel
theorem dX11_init_102 : decode cX11_init 102 = .ok (.invokespecial 64, 3) := by decide +kernel
theorem dX11_init_105 : decode cX11_init 105 = .ok (.putfield 65, 3) := by decide +kernel
theorem dX11_init_108 : decode cX11_init 108 = .ok (.return_, 1) := by decide +kernel
theorem dX11_feed_0 : decode cX11_feed 0 = .ok (.aload_n 0, 1) := by decide +kernel
theorem dX11_feed_1 : decode cX11_feed 1 = .ok (.getfield 10, 3) := by decide +kernel
theorem dX11_feed_4 : decode cX11_feed 4 = .ok (.lload_n 1, 1) := by decide +kernel
theorem dX11_feed_5 : decode cX11_feed 5 = .ok (.invokevirtual 69, 3) := by decide +kernel
theorem dX11_feed_8 : decode cX11_feed 8 = .ok (.ifCond .eq 13, 3) := by decide +kernel
theorem dX11_feed_11 : decode cX11_feed 11 = .ok (.aload_n 0, 1) := by decide +kernel
theorem dX11_feed_12 : decode cX11_feed 12 = .ok (.getfield 10, 3) := by decide +kernel
theorem dX11_feed_15 : decode cX11_feed 15 = .ok (.invokevirtual 73, 3) := by decide +kernel
theorem dX11_feed_18 : decode cX11_feed 18 = .ok (.goto 5, 3) := by decide +kernel
theorem dX11_feed_21 : decode cX11_feed 21 = .ok (.bipush (-3), 2) := by decide +kernel
theorem dX11_feed_23 : decode cX11_feed 23 = .ok (.ireturn, 1) := by decide +kernel
theorem dX11_end_0 : decode cX11_end 0 = .ok (.aload_n 0, 1) := by decide +kernel
theorem dX11_end_1 : decode cX11_end 1 = .ok (.getfield 10, 3) := by decide +kernel
theorem dX11_end_4 : decode cX11_end 4 = .ok (.invokevirtual 73, 3) := by decide +kernel
theorem dX11_end_7 : decode cX11_end 7 = .ok (.istore_n 2, 1) := by decide +kernel
theorem dX11_end_8 : decode cX11_end 8 = .ok (.aload_n 0, 1) := by decide +kernel
theorem dX11_end_9 : decode cX11_end 9 = .ok (.getfield 10, 3) := by decide +kernel
theorem dX11_end_12 : decode cX11_end 12 = .ok (.iload_n 1, 1) := by decide +kernel
theorem dX11_end_13 : decode cX11_end 13 = .ok (.invokevirtual 77, 3) := by decide +kernel
theorem dX11_end_16 : decode cX11_end 16 = .ok (.ifCond .eq 7, 3) := by decide +kernel
theorem dX11_end_19 : decode cX11_end 19 = .ok (.iload_n 2, 1) := by decide +kernel
theorem dX11_end_20 : decode cX11_end 20 = .ok (.goto 4, 3) := by decide +kernel
theorem dX11_end_23 : decode cX11_end 23 = .ok (.iconst (-1), 1) := by decide +kernel
theorem dX11_end_24 : decode cX11_end 24 = .ok (.ireturn, 1) := by decide +kernel
theorem dX11_text_0 : decode cX11_text 0 = .ok (.aload_n 0, 1) := by decide +kernel
theorem dX11_text_1 : decode cX11_text 1 = .ok (.getfield 28, 3) := by decide +kernel
theorem dX11_text_4 : decode cX11_text 4 = .ok (.invokevirtual 81, 3) := by decide +kernel
theorem dX11_text_7 : decode cX11_text 7 = .ok (.istore_n 1, 1) := by decide +kernel
theorem dX11_text_8 : decode cX11_text 8 = .ok (.aload_n 0, 1) := by decide +kernel
theorem dX11_text_9 : decode cX11_text 9 = .ok (.getfield 10, 3) := by decide +kernel
theorem dX11_text_12 : decode cX11_text 12 = .ok (.iconst 0, 1) := by decide +kernel
theorem dX11_text_13 : decode cX11_text 13 = .ok (.invokevirtual 77, 3) := by decide +kernel
theorem dX11_text_16 : decode cX11_text 16 = .ok (.pop, 1) := by decide +kernel
theorem dX11_text_17 : decode cX11_text 17 = .ok (.iload_n 1, 1) := by decide +kernel
theorem dX11_text_18 : decode cX11_text 18 = .ok (.ifCond .ne 14, 3) := by decide +kernel
theorem dX11_text_21 : decode cX11_text 21 = .ok (.bipush (-10), 2) := by decide +kernel
theorem dX11_text_23 : decode cX11_text 23 = .ok (.aload_n 0, 1) := by decide +kernel
theorem dX11_text_24 : decode cX11_text 24 = .ok (.getfield 28, 3) := by decide +kernel
theorem dX11_text_27 : decode cX11_text 27 = .ok (.invokevirtual 85, 3) := by decide +kernel
theorem dX11_text_30 : decode cX11_text 30 = .ok (.isub, 1) := by decide +kernel
theorem dX11_text_31 : decode cX11_text 31 = .ok (.ireturn, 1) := by decide +kernel
theorem dX11_text_32 : decode cX11_text 32 = .ok (.aload_n 0, 1) := by decide +kernel
theorem dX11_text_33 : decode cX11_text 33 = .ok (.getfield 28, 3) := by decide +kernel
theorem dX11_text_36 : decode cX11_text 36 = .ok (.aload_n 0, 1) := by decide +kernel
theorem dX11_text_37 : decode cX11_text 37 = .ok (.getfield 19, 3) := by decide +kernel
theorem dX11_text_40 : decode cX11_text 40 = .ok (.invokevirtual 88, 3) := by decide +kernel
theorem dX11_text_43 : decode cX11_text 43 = .ok (.aload_n 0, 1) := by decide +kernel
theorem dX11_text_44 : decode cX11_text 44 = .ok (.getfield 37, 3) := by decide +kernel
theorem dX11_text_47 : decode cX11_text 47 = .ok (.invokevirtual 91, 3) := by decide +kernel
theorem dX11_text_50 : decode cX11_text 50 = .ok (.aload_n 0, 1) := by decide +kernel
theorem dX11_text_51 : decode cX11_text 51 = .ok (.getfield 44, 3) := by decide +kernel
theorem dX11_text_54 : decode cX11_text 54 = .ok (.invokevirtual 94, 3) := by decide +kernel
theorem dX11_text_57 : decode cX11_text 57 = .ok (.aload_n 0, 1) := by decide +kernel
theorem dX11_text_58 : decode cX11_text 58 = .ok (.getfield 51, 3) := by decide +kernel
theorem dX11_text_61 : decode cX11_text 61 = .ok (.invokevirtual 95, 3) := by decide +kernel
theorem dX11_text_64 : decode cX11_text 64 = .ok (.aload_n 0, 1) := by decide +kernel
theorem dX11_text_65 : decode cX11_text 65 = .ok (.getfield 28, 3) := by decide +kernel
theorem dX11_text_68 : decode cX11_text 68 = .ok (.invokevirtual 96, 3) := by decide +kernel
theorem dX11_text_71 : decode cX11_text 71 = .ok (.ireturn, 1) := by decide +kernel
theorem dX11_fault_0 : decode cX11_fault 0 = .ok (.aload_n 0, 1) := by decide +kernel
theorem dX11_fault_1 : decode cX11_fault 1 = .ok (.getfield 28, 3) := by decide +kernel
theorem dX11_fault_4 : decode cX11_fault 4 = .ok (.invokevirtual 99, 3) := by decide +kernel
theorem dX11_fault_7 : decode cX11_fault 7 = .ok (.ireturn, 1) := by decide +kernel
theorem dX11_told_0 : decode cX11_told 0 = .ok (.iload_n 1, 1) := by decide +kernel
theorem dX11_told_1 : decode cX11_told 1 = .ok (.iconst 0, 1) := by decide +kernel
theorem dX11_told_2 : decode cX11_told 2 = .ok (.bipush 7, 2) := by decide +kernel
theorem dX11_told_4 : decode cX11_told 4 = .ok (.invokestatic 102, 3) := by decide +kernel
theorem dX11_told_7 : decode cX11_told 7 = .ok (.ifCond .eq 14, 3) := by decide +kernel
theorem dX11_told_10 : decode cX11_told 10 = .ok (.aload_n 0, 1) := by decide +kernel
theorem dX11_told_11 : decode cX11_told 11 = .ok (.getfield 19, 3) := by decide +kernel
theorem dX11_told_14 : decode cX11_told 14 = .ok (.iload_n 1, 1) := by decide +kernel
theorem dX11_told_15 : decode cX11_told 15 = .ok (.invokevirtual 106, 3) := by decide +kernel
theorem dX11_told_18 : decode cX11_told 18 = .ok (.goto 4, 3) := by decide +kernel
theorem dX11_told_21 : decode cX11_told 21 = .ok (.iconst (-1), 1) := by decide +kernel
theorem dX11_told_22 : decode cX11_told 22 = .ok (.ireturn, 1) := by decide +kernel
theorem dX11_rate_0 : decode cX11_rate 0 = .ok (.aload_n 0, 1) := by decide +kernel
theorem dX11_rate_1 : decode cX11_rate 1 = .ok (.getfield 19, 3) := by decide +kernel
theorem dX11_rate_4 : decode cX11_rate 4 = .ok (.iload_n 1, 1) := by decide +kernel
theorem dX11_rate_5 : decode cX11_rate 5 = .ok (.invokevirtual 110, 3) := by decide +kernel
theorem dX11_rate_8 : decode cX11_rate 8 = .ok (.ifCond .eq 26, 3) := by decide +kernel
theorem dX11_rate_11 : decode cX11_rate 11 = .ok (.aload_n 0, 1) := by decide +kernel
theorem dX11_rate_12 : decode cX11_rate 12 = .ok (.getfield 19, 3) := by decide +kernel
theorem dX11_rate_15 : decode cX11_rate 15 = .ok (.iload_n 2, 1) := by decide +kernel
theorem dX11_rate_16 : decode cX11_rate 16 = .ok (.invokevirtual 110, 3) := by decide +kernel
theorem dX11_rate_19 : decode cX11_rate 19 = .ok (.ifCond .eq 15, 3) := by decide +kernel
theorem dX11_rate_22 : decode cX11_rate 22 = .ok (.aload_n 0, 1) := by decide +kernel
theorem dX11_rate_23 : decode cX11_rate 23 = .ok (.getfield 19, 3) := by decide +kernel
theorem dX11_rate_26 : decode cX11_rate 26 = .ok (.iload_n 1, 1) := by decide +kernel
theorem dX11_rate_27 : decode cX11_rate 27 = .ok (.iload_n 2, 1) := by decide +kernel
theorem dX11_rate_28 : decode cX11_rate 28 = .ok (.invokevirtual 113, 3) := by decide +kernel
theorem dX11_rate_31 : decode cX11_rate 31 = .ok (.goto 4, 3) := by decide +kernel
theorem dX11_rate_34 : decode cX11_rate 34 = .ok (.iconst (-1), 1) := by decide +kernel
theorem dX11_rate_35 : decode cX11_rate 35 = .ok (.ireturn, 1) := by decide +kernel
theorem dX11_of_0 : decode cX11_of 0 = .ok (.aload_n 0, 1) := by decide +kernel
theorem dX11_of_1 : decode cX11_of 1 = .ok (.getfield 19, 3) := by decide +kernel
theorem dX11_of_4 : decode cX11_of 4 = .ok (.iload_n 1, 1) := by decide +kernel
theorem dX11_of_5 : decode cX11_of 5 = .ok (.invokevirtual 110, 3) := by decide +kernel
theorem dX11_of_8 : decode cX11_of 8 = .ok (.ifCond .ne 5, 3) := by decide +kernel
theorem dX11_of_11 : decode cX11_of 11 = .ok (.iconst (-1), 1) := by decide +kernel
theorem dX11_of_12 : decode cX11_of 12 = .ok (.ireturn, 1) := by decide +kernel
theorem dX11_of_13 : decode cX11_of 13 = .ok (.iload_n 2, 1) := by decide +kernel
theorem dX11_of_14 : decode cX11_of 14 = .ok (.tableswitch 133 0 6 #[42, 51, 63, 78, 93, 113, 128], 42) := by decide +kernel
theorem dX11_of_56 : decode cX11_of 56 = .ok (.aload_n 0, 1) := by decide +kernel
theorem dX11_of_57 : decode cX11_of 57 = .ok (.getfield 19, 3) := by decide +kernel
theorem dX11_of_60 : decode cX11_of 60 = .ok (.iload_n 1, 1) := by decide +kernel
theorem dX11_of_61 : decode cX11_of 61 = .ok (.invokevirtual 117, 3) := by decide +kernel
theorem dX11_of_64 : decode cX11_of 64 = .ok (.ireturn, 1) := by decide +kernel
theorem dX11_of_65 : decode cX11_of 65 = .ok (.aload_n 0, 1) := by decide +kernel
theorem dX11_of_66 : decode cX11_of 66 = .ok (.getfield 19, 3) := by decide +kernel
theorem dX11_of_69 : decode cX11_of 69 = .ok (.iload_n 1, 1) := by decide +kernel
theorem dX11_of_70 : decode cX11_of 70 = .ok (.invokevirtual 120, 3) := by decide +kernel
theorem dX11_of_73 : decode cX11_of 73 = .ok (.invokestatic 124, 3) := by decide +kernel
theorem dX11_of_76 : decode cX11_of 76 = .ok (.ireturn, 1) := by decide +kernel
theorem dX11_of_77 : decode cX11_of 77 = .ok (.aload_n 0, 1) := by decide +kernel
theorem dX11_of_78 : decode cX11_of 78 = .ok (.getfield 37, 3) := by decide +kernel
theorem dX11_of_81 : decode cX11_of 81 = .ok (.invokevirtual 130, 3) := by decide +kernel
theorem dX11_of_84 : decode cX11_of 84 = .ok (.iload_n 1, 1) := by decide +kernel
theorem dX11_of_85 : decode cX11_of 85 = .ok (.invokevirtual 134, 3) := by decide +kernel
theorem dX11_of_88 : decode cX11_of 88 = .ok (.invokestatic 124, 3) := by decide +kernel
theorem dX11_of_91 : decode cX11_of 91 = .ok (.ireturn, 1) := by decide +kernel
theorem dX11_of_92 : decode cX11_of 92 = .ok (.aload_n 0, 1) := by decide +kernel
theorem dX11_of_93 : decode cX11_of 93 = .ok (.getfield 37, 3) := by decide +kernel
theorem dX11_of_96 : decode cX11_of 96 = .ok (.invokevirtual 130, 3) := by decide +kernel
theorem dX11_of_99 : decode cX11_of 99 = .ok (.iload_n 1, 1) := by decide +kernel
theorem dX11_of_100 : decode cX11_of 100 = .ok (.invokevirtual 137, 3) := by decide +kernel
theorem dX11_of_103 : decode cX11_of 103 = .ok (.invokestatic 124, 3) := by decide +kernel
theorem dX11_of_106 : decode cX11_of 106 = .ok (.ireturn, 1) := by decide +kernel
theorem dX11_of_107 : decode cX11_of 107 = .ok (.aload_n 0, 1) := by decide +kernel
theorem dX11_of_108 : decode cX11_of 108 = .ok (.getfield 37, 3) := by decide +kernel
theorem dX11_of_111 : decode cX11_of 111 = .ok (.invokevirtual 130, 3) := by decide +kernel
theorem dX11_of_114 : decode cX11_of 114 = .ok (.iload_n 1, 1) := by decide +kernel
theorem dX11_of_115 : decode cX11_of 115 = .ok (.invokevirtual 140, 3) := by decide +kernel
theorem dX11_of_118 : decode cX11_of 118 = .ok (.ifCond .eq 7, 3) := by decide +kernel
theorem dX11_of_121 : decode cX11_of 121 = .ok (.iconst 1, 1) := by decide +kernel
theorem dX11_of_122 : decode cX11_of 122 = .ok (.goto 4, 3) := by decide +kernel
theorem dX11_of_125 : decode cX11_of 125 = .ok (.iconst 0, 1) := by decide +kernel
theorem dX11_of_126 : decode cX11_of 126 = .ok (.ireturn, 1) := by decide +kernel
theorem dX11_of_127 : decode cX11_of 127 = .ok (.aload_n 0, 1) := by decide +kernel
theorem dX11_of_128 : decode cX11_of 128 = .ok (.getfield 37, 3) := by decide +kernel
theorem dX11_of_131 : decode cX11_of 131 = .ok (.invokevirtual 130, 3) := by decide +kernel
theorem dX11_of_134 : decode cX11_of 134 = .ok (.iload_n 1, 1) := by decide +kernel
theorem dX11_of_135 : decode cX11_of 135 = .ok (.invokevirtual 137, 3) := by decide +kernel
theorem dX11_of_138 : decode cX11_of 138 = .ok (.invokestatic 143, 3) := by decide +kernel
theorem dX11_of_141 : decode cX11_of 141 = .ok (.ireturn, 1) := by decide +kernel
theorem dX11_of_142 : decode cX11_of 142 = .ok (.iload_n 1, 1) := by decide +kernel
theorem dX11_of_143 : decode cX11_of 143 = .ok (.invokestatic 146, 3) := by decide +kernel
theorem dX11_of_146 : decode cX11_of 146 = .ok (.ireturn, 1) := by decide +kernel
theorem dX11_of_147 : decode cX11_of 147 = .ok (.iconst (-1), 1) := by decide +kernel
theorem dX11_of_148 : decode cX11_of 148 = .ok (.ireturn, 1) := by decide +kernel
theorem dX11_parts_0 : decode cX11_parts 0 = .ok (.iload_n 1, 1) := by decide +kernel
theorem dX11_parts_1 : decode cX11_parts 1 = .ok (.tableswitch 62 0 2 #[27, 39, 51], 27) := by decide +kernel
theorem dX11_parts_28 : decode cX11_parts 28 = .ok (.aload_n 0, 1) := by decide +kernel
theorem dX11_parts_29 : decode cX11_parts 29 = .ok (.getfield 37, 3) := by decide +kernel
theorem dX11_parts_32 : decode cX11_parts 32 = .ok (.invokevirtual 130, 3) := by decide +kernel
theorem dX11_parts_35 : decode cX11_parts 35 = .ok (.iconst 0, 1) := by decide +kernel
theorem dX11_parts_36 : decode cX11_parts 36 = .ok (.invokevirtual 150, 3) := by decide +kernel
theorem dX11_parts_39 : decode cX11_parts 39 = .ok (.ireturn, 1) := by decide +kernel
theorem dX11_parts_40 : decode cX11_parts 40 = .ok (.aload_n 0, 1) := by decide +kernel
theorem dX11_parts_41 : decode cX11_parts 41 = .ok (.getfield 37, 3) := by decide +kernel
theorem dX11_parts_44 : decode cX11_parts 44 = .ok (.invokevirtual 130, 3) := by decide +kernel
theorem dX11_parts_47 : decode cX11_parts 47 = .ok (.iconst 1, 1) := by decide +kernel
theorem dX11_parts_48 : decode cX11_parts 48 = .ok (.invokevirtual 150, 3) := by decide +kernel
theorem dX11_parts_51 : decode cX11_parts 51 = .ok (.ireturn, 1) := by decide +kernel
theorem dX11_parts_52 : decode cX11_parts 52 = .ok (.aload_n 0, 1) := by decide +kernel
theorem dX11_parts_53 : decode cX11_parts 53 = .ok (.getfield 37, 3) := by decide +kernel
theorem dX11_parts_56 : decode cX11_parts 56 = .ok (.invokevirtual 130, 3) := by decide +kernel
theorem dX11_parts_59 : decode cX11_parts 59 = .ok (.invokevirtual 154, 3) := by decide +kernel
theorem dX11_parts_62 : decode cX11_parts 62 = .ok (.ireturn, 1) := by decide +kernel
theorem dX11_parts_63 : decode cX11_parts 63 = .ok (.iconst (-1), 1) := by decide +kernel
theorem dX11_parts_64 : decode cX11_parts 64 = .ok (.ireturn, 1) := by decide +kernel
theorem dX11_rest_0 : decode cX11_rest 0 = .ok (.aload_n 0, 1) := by decide +kernel
theorem dX11_rest_1 : decode cX11_rest 1 = .ok (.getfield 19, 3) := by decide +kernel
theorem dX11_rest_4 : decode cX11_rest 4 = .ok (.iload_n 1, 1) := by decide +kernel
theorem dX11_rest_5 : decode cX11_rest 5 = .ok (.invokevirtual 110, 3) := by decide +kernel
theorem dX11_rest_8 : decode cX11_rest 8 = .ok (.ifCond .eq 10, 3) := by decide +kernel
theorem dX11_rest_11 : decode cX11_rest 11 = .ok (.iload_n 2, 1) := by decide +kernel
theorem dX11_rest_12 : decode cX11_rest 12 = .ok (.invokestatic 157, 3) := by decide +kernel
theorem dX11_rest_15 : decode cX11_rest 15 = .ok (.ifCond .ne 7, 3) := by decide +kernel
theorem dX11_rest_18 : decode cX11_rest 18 = .ok (.ldc2_w 160, 3) := by decide +kernel
theorem dX11_rest_21 : decode cX11_rest 21 = .ok (.lreturn, 1) := by decide +kernel
theorem dX11_rest_22 : decode cX11_rest 22 = .ok (.aload_n 0, 1) := by decide +kernel
theorem dX11_rest_23 : decode cX11_rest 23 = .ok (.iload_n 1, 1) := by decide +kernel
theorem dX11_rest_24 : decode cX11_rest 24 = .ok (.invokevirtual 162, 3) := by decide +kernel
theorem dX11_rest_27 : decode cX11_rest 27 = .ok (.istore_n 3, 1) := by decide +kernel
theorem dX11_rest_28 : decode cX11_rest 28 = .ok (.iload_n 3, 1) := by decide +kernel
theorem dX11_rest_29 : decode cX11_rest 29 = .ok (.ifCond .eq 8, 3) := by decide +kernel
theorem dX11_rest_32 : decode cX11_rest 32 = .ok (.iload_n 3, 1) := by decide +kernel
theorem dX11_rest_33 : decode cX11_rest 33 = .ok (.i2l, 1) := by decide +kernel
theorem dX11_rest_34 : decode cX11_rest 34 = .ok (.goto 22, 3) := by decide +kernel
theorem dX11_rest_37 : decode cX11_rest 37 = .ok (.aload_n 0, 1) := by decide +kernel
theorem dX11_rest_38 : decode cX11_rest 38 = .ok (.getfield 44, 3) := by decide +kernel
theorem dX11_rest_41 : decode cX11_rest 41 = .ok (.iload_n 1, 1) := by decide +kernel
theorem dX11_rest_42 : decode cX11_rest 42 = .ok (.invokevirtual 165, 3) := by decide +kernel
theorem dX11_rest_45 : decode cX11_rest 45 = .ok (.aload_n 0, 1) := by decide +kernel
theorem dX11_rest_46 : decode cX11_rest 46 = .ok (.getfield 44, 3) := by decide +kernel
theorem dX11_rest_49 : decode cX11_rest 49 = .ok (.invokevirtual 168, 3) := by decide +kernel
theorem dX11_rest_52 : decode cX11_rest 52 = .ok (.iload_n 2, 1) := by decide +kernel
theorem dX11_rest_53 : decode cX11_rest 53 = .ok (.invokestatic 172, 3) := by decide +kernel
theorem dX11_rest_56 : decode cX11_rest 56 = .ok (.lreturn, 1) := by decide +kernel
theorem dX11_through_0 : decode cX11_through 0 = .ok (.aload_n 0, 1) := by decide +kernel
theorem dX11_through_1 : decode cX11_through 1 = .ok (.getfield 19, 3) := by decide +kernel
theorem dX11_through_4 : decode cX11_through 4 = .ok (.iload_n 1, 1) := by decide +kernel
theorem dX11_through_5 : decode cX11_through 5 = .ok (.invokevirtual 110, 3) := by decide +kernel
theorem dX11_through_8 : decode cX11_through 8 = .ok (.ifCond .eq 10, 3) := by decide +kernel
theorem dX11_through_11 : decode cX11_through 11 = .ok (.iload_n 2, 1) := by decide +kernel
theorem dX11_through_12 : decode cX11_through 12 = .ok (.invokestatic 157, 3) := by decide +kernel
theorem dX11_through_15 : decode cX11_through 15 = .ok (.ifCond .ne 7, 3) := by decide +kernel
theorem dX11_through_18 : decode cX11_through 18 = .ok (.ldc2_w 178, 3) := by decide +kernel
theorem dX11_through_21 : decode cX11_through 21 = .ok (.lreturn, 1) := by decide +kernel
theorem dX11_through_22 : decode cX11_through 22 = .ok (.aload_n 0, 1) := by decide +kernel
theorem dX11_through_23 : decode cX11_through 23 = .ok (.iload_n 1, 1) := by decide +kernel
theorem dX11_through_24 : decode cX11_through 24 = .ok (.invokevirtual 162, 3) := by decide +kernel
theorem dX11_through_27 : decode cX11_through 27 = .ok (.istore_n 3, 1) := by decide +kernel
theorem dX11_through_28 : decode cX11_through 28 = .ok (.iload_n 3, 1) := by decide +kernel
theorem dX11_through_29 : decode cX11_through 29 = .ok (.ifCond .eq 11, 3) := by decide +kernel
theorem dX11_through_32 : decode cX11_through 32 = .ok (.bipush (-100), 2) := by decide +kernel
theorem dX11_through_34 : decode cX11_through 34 = .ok (.iload_n 3, 1) := by decide +kernel
theorem dX11_through_35 : decode cX11_through 35 = .ok (.iadd, 1) := by decide +kernel
theorem dX11_through_36 : decode cX11_through 36 = .ok (.i2l, 1) := by decide +kernel
theorem dX11_through_37 : decode cX11_through 37 = .ok (.goto 21, 3) := by decide +kernel
theorem dX11_through_40 : decode cX11_through 40 = .ok (.aload_n 0, 1) := by decide +kernel
theorem dX11_through_41 : decode cX11_through 41 = .ok (.getfield 44, 3) := by decide +kernel
theorem dX11_through_44 : decode cX11_through 44 = .ok (.invokevirtual 180, 3) := by decide +kernel
theorem dX11_through_47 : decode cX11_through 47 = .ok (.aload_n 0, 1) := by decide +kernel
theorem dX11_through_48 : decode cX11_through 48 = .ok (.getfield 44, 3) := by decide +kernel
theorem dX11_through_51 : decode cX11_through 51 = .ok (.invokevirtual 168, 3) := by decide +kernel
theorem dX11_through_54 : decode cX11_through 54 = .ok (.iload_n 2, 1) := by decide +kernel
theorem dX11_through_55 : decode cX11_through 55 = .ok (.invokestatic 172, 3) := by decide +kernel
theorem dX11_through_58 : decode cX11_through 58 = .ok (.lreturn, 1) := by decide +kernel
theorem dX11_even_0 : decode cX11_even 0 = .ok (.aload_n 0, 1) := by decide +kernel
theorem dX11_even_1 : decode cX11_even 1 = .ok (.getfield 19, 3) := by decide +kernel
theorem dX11_even_4 : decode cX11_even 4 = .ok (.iload_n 1, 1) := by decide +kernel
theorem dX11_even_5 : decode cX11_even 5 = .ok (.invokevirtual 110, 3) := by decide +kernel
theorem dX11_even_8 : decode cX11_even 8 = .ok (.ifCond .ne 5, 3) := by decide +kernel
theorem dX11_even_11 : decode cX11_even 11 = .ok (.iconst (-1), 1) := by decide +kernel
theorem dX11_even_12 : decode cX11_even 12 = .ok (.ireturn, 1) := by decide +kernel
theorem dX11_even_13 : decode cX11_even 13 = .ok (.aload_n 0, 1) := by decide +kernel
theorem dX11_even_14 : decode cX11_even 14 = .ok (.iload_n 1, 1) := by decide +kernel
theorem dX11_even_15 : decode cX11_even 15 = .ok (.invokevirtual 162, 3) := by decide +kernel
theorem dX11_even_18 : decode cX11_even 18 = .ok (.istore_n 2, 1) := by decide +kernel
theorem dX11_even_19 : decode cX11_even 19 = .ok (.iload_n 2, 1) := by decide +kernel
theorem dX11_even_20 : decode cX11_even 20 = .ok (.ifCond .eq 5, 3) := by decide +kernel
theorem dX11_even_23 : decode cX11_even 23 = .ok (.iload_n 2, 1) := by decide +kernel
theorem dX11_even_24 : decode cX11_even 24 = .ok (.ireturn, 1) := by decide +kernel
theorem dX11_even_25 : decode cX11_even 25 = .ok (.aload_n 0, 1) := by decide +kernel
theorem dX11_even_26 : decode cX11_even 26 = .ok (.getfield 44, 3) := by decide +kernel
theorem dX11_even_29 : decode cX11_even 29 = .ok (.invokevirtual 183, 3) := by decide +kernel
theorem dX11_even_32 : decode cX11_even 32 = .ok (.ifCond .eq 7, 3) := by decide +kernel
theorem dX11_even_35 : decode cX11_even 35 = .ok (.iconst 1, 1) := by decide +kernel
theorem dX11_even_36 : decode cX11_even 36 = .ok (.goto 4, 3) := by decide +kernel
theorem dX11_even_39 : decode cX11_even 39 = .ok (.iconst 0, 1) := by decide +kernel
theorem dX11_even_40 : decode cX11_even 40 = .ok (.ireturn, 1) := by decide +kernel
theorem dX11_worth_0 : decode cX11_worth 0 = .ok (.aload_n 0, 1) := by decide +kernel
theorem dX11_worth_1 : decode cX11_worth 1 = .ok (.getfield 19, 3) := by decide +kernel
theorem dX11_worth_4 : decode cX11_worth 4 = .ok (.iload_n 1, 1) := by decide +kernel
theorem dX11_worth_5 : decode cX11_worth 5 = .ok (.invokevirtual 110, 3) := by decide +kernel
theorem dX11_worth_8 : decode cX11_worth 8 = .ok (.ifCond .ne 7, 3) := by decide +kernel
theorem dX11_worth_11 : decode cX11_worth 11 = .ok (.ldc2_w 160, 3) := by decide +kernel
theorem dX11_worth_14 : decode cX11_worth 14 = .ok (.lreturn, 1) := by decide +kernel
theorem dX11_worth_15 : decode cX11_worth 15 = .ok (.aload_n 0, 1) := by decide +kernel
theorem dX11_worth_16 : decode cX11_worth 16 = .ok (.getfield 19, 3) := by decide +kernel
theorem dX11_worth_19 : decode cX11_worth 19 = .ok (.invokevirtual 186, 3) := by decide +kernel
theorem dX11_worth_22 : decode cX11_worth 22 = .ok (.ifCond .eq 14, 3) := by decide +kernel
theorem dX11_worth_25 : decode cX11_worth 25 = .ok (.aload_n 0, 1) := by decide +kernel
theorem dX11_worth_26 : decode cX11_worth 26 = .ok (.getfield 51, 3) := by decide +kernel
theorem dX11_worth_29 : decode cX11_worth 29 = .ok (.iload_n 1, 1) := by decide +kernel
theorem dX11_worth_30 : decode cX11_worth 30 = .ok (.invokevirtual 189, 3) := by decide +kernel
theorem dX11_worth_33 : decode cX11_worth 33 = .ok (.goto 6, 3) := by decide +kernel
theorem dX11_worth_36 : decode cX11_worth 36 = .ok (.ldc2_w 192, 3) := by decide +kernel
theorem dX11_worth_39 : decode cX11_worth 39 = .ok (.lreturn, 1) := by decide +kernel
theorem dX11_all_0 : decode cX11_all 0 = .ok (.iload_n 1, 1) := by decide +kernel
theorem dX11_all_1 : decode cX11_all 1 = .ok (.iconst 0, 1) := by decide +kernel
theorem dX11_all_2 : decode cX11_all 2 = .ok (.aload_n 0, 1) := by decide +kernel
theorem dX11_all_3 : decode cX11_all 3 = .ok (.getfield 19, 3) := by decide +kernel
theorem dX11_all_6 : decode cX11_all 6 = .ok (.invokevirtual 194, 3) := by decide +kernel
theorem dX11_all_9 : decode cX11_all 9 = .ok (.invokestatic 102, 3) := by decide +kernel
theorem dX11_all_12 : decode cX11_all 12 = .ok (.ifCond .ne 7, 3) := by decide +kernel
theorem dX11_all_15 : decode cX11_all 15 = .ok (.ldc2_w 160, 3) := by decide +kernel
theorem dX11_all_18 : decode cX11_all 18 = .ok (.lreturn, 1) := by decide +kernel
theorem dX11_all_19 : decode cX11_all 19 = .ok (.aload_n 0, 1) := by decide +kernel
theorem dX11_all_20 : decode cX11_all 20 = .ok (.getfield 19, 3) := by decide +kernel
theorem dX11_all_23 : decode cX11_all 23 = .ok (.invokevirtual 186, 3) := by decide +kernel
theorem dX11_all_26 : decode cX11_all 26 = .ok (.ifCond .eq 15, 3) := by decide +kernel
theorem dX11_all_29 : decode cX11_all 29 = .ok (.aload_n 0, 1) := by decide +kernel
theorem dX11_all_30 : decode cX11_all 30 = .ok (.getfield 51, 3) := by decide +kernel
theorem dX11_all_33 : decode cX11_all 33 = .ok (.iload_n 1, 1) := by decide +kernel
theorem dX11_all_34 : decode cX11_all 34 = .ok (.iconst 0, 1) := by decide +kernel
theorem dX11_all_35 : decode cX11_all 35 = .ok (.invokevirtual 197, 3) := by decide +kernel
theorem dX11_all_38 : decode cX11_all 38 = .ok (.goto 6, 3) := by decide +kernel
theorem dX11_all_41 : decode cX11_all 41 = .ok (.ldc2_w 192, 3) := by decide +kernel
theorem dX11_all_44 : decode cX11_all 44 = .ok (.lreturn, 1) := by decide +kernel
theorem dX11_flow_0 : decode cX11_flow 0 = .ok (.iload_n 1, 1) := by decide +kernel
theorem dX11_flow_1 : decode cX11_flow 1 = .ok (.invokestatic 157, 3) := by decide +kernel
theorem dX11_flow_4 : decode cX11_flow 4 = .ok (.ifCond .ne 7, 3) := by decide +kernel
theorem dX11_flow_7 : decode cX11_flow 7 = .ok (.ldc2_w 160, 3) := by decide +kernel
theorem dX11_flow_10 : decode cX11_flow 10 = .ok (.lreturn, 1) := by decide +kernel
theorem dX11_flow_11 : decode cX11_flow 11 = .ok (.aload_n 0, 1) := by decide +kernel
theorem dX11_flow_12 : decode cX11_flow 12 = .ok (.getfield 19, 3) := by decide +kernel
theorem dX11_flow_15 : decode cX11_flow 15 = .ok (.invokevirtual 186, 3) := by decide +kernel
theorem dX11_flow_18 : decode cX11_flow 18 = .ok (.ifCond .ne 7, 3) := by decide +kernel
theorem dX11_flow_21 : decode cX11_flow 21 = .ok (.ldc2_w 192, 3) := by decide +kernel
theorem dX11_flow_24 : decode cX11_flow 24 = .ok (.lreturn, 1) := by decide +kernel
theorem dX11_flow_25 : decode cX11_flow 25 = .ok (.aload_n 0, 1) := by decide +kernel
theorem dX11_flow_26 : decode cX11_flow 26 = .ok (.getfield 19, 3) := by decide +kernel
theorem dX11_flow_29 : decode cX11_flow 29 = .ok (.invokevirtual 194, 3) := by decide +kernel
theorem dX11_flow_32 : decode cX11_flow 32 = .ok (.istore_n 2, 1) := by decide +kernel
theorem dX11_flow_33 : decode cX11_flow 33 = .ok (.aload_n 0, 1) := by decide +kernel
theorem dX11_flow_34 : decode cX11_flow 34 = .ok (.getfield 19, 3) := by decide +kernel
theorem dX11_flow_37 : decode cX11_flow 37 = .ok (.iconst 4, 1) := by decide +kernel
theorem dX11_flow_38 : decode cX11_flow 38 = .ok (.invokevirtual 106, 3) := by decide +kernel
theorem dX11_flow_41 : decode cX11_flow 41 = .ok (.i2l, 1) := by decide +kernel
theorem dX11_flow_42 : decode cX11_flow 42 = .ok (.aload_n 0, 1) := by decide +kernel
theorem dX11_flow_43 : decode cX11_flow 43 = .ok (.getfield 19, 3) := by decide +kernel
theorem dX11_flow_46 : decode cX11_flow 46 = .ok (.bipush 6, 2) := by decide +kernel
theorem dX11_flow_48 : decode cX11_flow 48 = .ok (.invokevirtual 106, 3) := by decide +kernel
theorem dX11_flow_51 : decode cX11_flow 51 = .ok (.i2l, 1) := by decide +kernel
theorem dX11_flow_52 : decode cX11_flow 52 = .ok (.lmul, 1) := by decide +kernel
theorem dX11_flow_53 : decode cX11_flow 53 = .ok (.lstore_n 3, 1) := by decide +kernel
theorem dX11_flow_54 : decode cX11_flow 54 = .ok (.lload_n 3, 1) := by decide +kernel
theorem dX11_flow_55 : decode cX11_flow 55 = .ok (.aload_n 0, 1) := by decide +kernel
theorem dX11_flow_56 : decode cX11_flow 56 = .ok (.getfield 51, 3) := by decide +kernel
theorem dX11_flow_59 : decode cX11_flow 59 = .ok (.iload_n 2, 1) := by decide +kernel
theorem dX11_flow_60 : decode cX11_flow 60 = .ok (.iconst 1, 1) := by decide +kernel
theorem dX11_flow_61 : decode cX11_flow 61 = .ok (.isub, 1) := by decide +kernel
theorem dX11_flow_62 : decode cX11_flow 62 = .ok (.iconst 0, 1) := by decide +kernel
theorem dX11_flow_63 : decode cX11_flow 63 = .ok (.invokevirtual 197, 3) := by decide +kernel
theorem dX11_flow_66 : decode cX11_flow 66 = .ok (.lmul, 1) := by decide +kernel
theorem dX11_flow_67 : decode cX11_flow 67 = .ok (.aload_n 0, 1) := by decide +kernel
theorem dX11_flow_68 : decode cX11_flow 68 = .ok (.getfield 51, 3) := by decide +kernel
theorem dX11_flow_71 : decode cX11_flow 71 = .ok (.iload_n 2, 1) := by decide +kernel
theorem dX11_flow_72 : decode cX11_flow 72 = .ok (.iconst 0, 1) := by decide +kernel
theorem dX11_flow_73 : decode cX11_flow 73 = .ok (.invokevirtual 197, 3) := by decide +kernel
theorem dX11_flow_76 : decode cX11_flow 76 = .ok (.iload_n 1, 1) := by decide +kernel
theorem dX11_flow_77 : decode cX11_flow 77 = .ok (.invokestatic 172, 3) := by decide +kernel
theorem dX11_flow_80 : decode cX11_flow 80 = .ok (.lreturn, 1) := by decide +kernel
theorem dX11_full_0 : decode cX11_full 0 = .ok (.aload_n 0, 1) := by decide +kernel
theorem dX11_full_1 : decode cX11_full 1 = .ok (.getfield 19, 3) := by decide +kernel
theorem dX11_full_4 : decode cX11_full 4 = .ok (.iload_n 1, 1) := by decide +kernel
theorem dX11_full_5 : decode cX11_full 5 = .ok (.invokevirtual 201, 3) := by decide +kernel
theorem dX11_full_8 : decode cX11_full 8 = .ok (.ifCond .eq 10, 3) := by decide +kernel
theorem dX11_full_11 : decode cX11_full 11 = .ok (.iload_n 2, 1) := by decide +kernel
theorem dX11_full_12 : decode cX11_full 12 = .ok (.invokestatic 157, 3) := by decide +kernel
theorem dX11_full_15 : decode cX11_full 15 = .ok (.ifCond .ne 7, 3) := by decide +kernel
theorem dX11_full_18 : decode cX11_full 18 = .ok (.ldc2_w 160, 3) := by decide +kernel
theorem dX11_full_21 : decode cX11_full 21 = .ok (.lreturn, 1) := by decide +kernel
theorem dX11_full_22 : decode cX11_full 22 = .ok (.aload_n 0, 1) := by decide +kernel
theorem dX11_full_23 : decode cX11_full 23 = .ok (.iconst 1, 1) := by decide +kernel
theorem dX11_full_24 : decode cX11_full 24 = .ok (.iload_n 1, 1) := by decide +kernel
theorem dX11_full_25 : decode cX11_full 25 = .ok (.ishl, 1) := by decide +kernel
theorem dX11_full_26 : decode cX11_full 26 = .ok (.iload_n 2, 1) := by decide +kernel
theorem dX11_full_27 : decode cX11_full 27 = .ok (.invokevirtual 204, 3) := by decide +kernel
theorem dX11_full_30 : decode cX11_full 30 = .ok (.lreturn, 1) := by decide +kernel
theorem dX11_both_0 : decode cX11_both 0 = .ok (.aload_n 0, 1) := by decide +kernel
theorem dX11_both_1 : decode cX11_both 1 = .ok (.getfield 19, 3) := by decide +kernel
theorem dX11_both_4 : decode cX11_both 4 = .ok (.iload_n 1, 1) := by decide +kernel
theorem dX11_both_5 : decode cX11_both 5 = .ok (.invokevirtual 201, 3) := by decide +kernel
theorem dX11_both_8 : decode cX11_both 8 = .ok (.ifCond .eq 26, 3) := by decide +kernel
theorem dX11_both_11 : decode cX11_both 11 = .ok (.aload_n 0, 1) := by decide +kernel
theorem dX11_both_12 : decode cX11_both 12 = .ok (.getfield 19, 3) := by decide +kernel
theorem dX11_both_15 : decode cX11_both 15 = .ok (.iload_n 2, 1) := by decide +kernel
theorem dX11_both_16 : decode cX11_both 16 = .ok (.invokevirtual 201, 3) := by decide +kernel
theorem dX11_both_19 : decode cX11_both 19 = .ok (.ifCond .eq 15, 3) := by decide +kernel
theorem dX11_both_22 : decode cX11_both 22 = .ok (.iload_n 1, 1) := by decide +kernel
theorem dX11_both_23 : decode cX11_both 23 = .ok (.iload_n 2, 1) := by decide +kernel
theorem dX11_both_24 : decode cX11_both 24 = .ok (.if_icmp .eq 10, 3) := by decide +kernel
theorem dX11_both_27 : decode cX11_both 27 = .ok (.iload_n 3, 1) := by decide +kernel
theorem dX11_both_28 : decode cX11_both 28 = .ok (.invokestatic 157, 3) := by decide +kernel
theorem dX11_both_31 : decode cX11_both 31 = .ok (.ifCond .ne 7, 3) := by decide +kernel
theorem dX11_both_34 : decode cX11_both 34 = .ok (.ldc2_w 160, 3) := by decide +kernel
theorem dX11_both_37 : decode cX11_both 37 = .ok (.lreturn, 1) := by decide +kernel
theorem dX11_both_38 : decode cX11_both 38 = .ok (.aload_n 0, 1) := by decide +kernel
theorem dX11_both_39 : decode cX11_both 39 = .ok (.iconst 1, 1) := by decide +kernel
theorem dX11_both_40 : decode cX11_both 40 = .ok (.iload_n 1, 1) := by decide +kernel
theorem dX11_both_41 : decode cX11_both 41 = .ok (.ishl, 1) := by decide +kernel
theorem dX11_both_42 : decode cX11_both 42 = .ok (.iconst 1, 1) := by decide +kernel
theorem dX11_both_43 : decode cX11_both 43 = .ok (.iload_n 2, 1) := by decide +kernel
theorem dX11_both_44 : decode cX11_both 44 = .ok (.ishl, 1) := by decide +kernel
theorem dX11_both_45 : decode cX11_both 45 = .ok (.ior, 1) := by decide +kernel
theorem dX11_both_46 : decode cX11_both 46 = .ok (.iload_n 3, 1) := by decide +kernel
theorem dX11_both_47 : decode cX11_both 47 = .ok (.invokevirtual 204, 3) := by decide +kernel
theorem dX11_both_50 : decode cX11_both 50 = .ok (.lreturn, 1) := by decide +kernel
theorem dX11_rule_0 : decode cX11_rule 0 = .ok (.iload_n 1, 1) := by decide +kernel
theorem dX11_rule_1 : decode cX11_rule 1 = .ok (.iconst 1, 1) := by decide +kernel
theorem dX11_rule_2 : decode cX11_rule 2 = .ok (.bipush 10, 2) := by decide +kernel
theorem dX11_rule_4 : decode cX11_rule 4 = .ok (.invokestatic 102, 3) := by decide +kernel
theorem dX11_rule_7 : decode cX11_rule 7 = .ok (.ifCond .eq 13, 3) := by decide +kernel
theorem dX11_rule_10 : decode cX11_rule 10 = .ok (.iload_n 2, 1) := by decide +kernel
theorem dX11_rule_11 : decode cX11_rule 11 = .ok (.iconst 1, 1) := by decide +kernel
theorem dX11_rule_12 : decode cX11_rule 12 = .ok (.bipush 10, 2) := by decide +kernel
theorem dX11_rule_14 : decode cX11_rule 14 = .ok (.invokestatic 102, 3) := by decide +kernel
theorem dX11_rule_17 : decode cX11_rule 17 = .ok (.ifCond .ne 5, 3) := by decide +kernel
theorem dX11_rule_20 : decode cX11_rule 20 = .ok (.iconst (-1), 1) := by decide +kernel
theorem dX11_rule_21 : decode cX11_rule 21 = .ok (.ireturn, 1) := by decide +kernel
theorem dX11_rule_22 : decode cX11_rule 22 = .ok (.iload_n 1, 1) := by decide +kernel
theorem dX11_rule_23 : decode cX11_rule 23 = .ok (.iconst 5, 1) := by decide +kernel
theorem dX11_rule_24 : decode cX11_rule 24 = .ok (.if_icmp .lt 10, 3) := by decide +kernel
theorem dX11_rule_27 : decode cX11_rule 27 = .ok (.iload_n 2, 1) := by decide +kernel
theorem dX11_rule_28 : decode cX11_rule 28 = .ok (.iconst 5, 1) := by decide +kernel
theorem dX11_rule_29 : decode cX11_rule 29 = .ok (.if_icmp .lt 5, 3) := by decide +kernel
theorem dX11_rule_32 : decode cX11_rule 32 = .ok (.iconst 2, 1) := by decide +kernel
theorem dX11_rule_33 : decode cX11_rule 33 = .ok (.ireturn, 1) := by decide +kernel
theorem dX11_rule_34 : decode cX11_rule 34 = .ok (.iload_n 1, 1) := by decide +kernel
theorem dX11_rule_35 : decode cX11_rule 35 = .ok (.iload_n 2, 1) := by decide +kernel
theorem dX11_rule_36 : decode cX11_rule 36 = .ok (.if_icmp .ne 5, 3) := by decide +kernel
theorem dX11_rule_39 : decode cX11_rule 39 = .ok (.iconst 3, 1) := by decide +kernel
theorem dX11_rule_40 : decode cX11_rule 40 = .ok (.ireturn, 1) := by decide +kernel
theorem dX11_rule_41 : decode cX11_rule 41 = .ok (.iload_n 1, 1) := by decide +kernel
theorem dX11_rule_42 : decode cX11_rule 42 = .ok (.iload_n 2, 1) := by decide +kernel
theorem dX11_rule_43 : decode cX11_rule 43 = .ok (.if_icmp .ge 7, 3) := by decide +kernel
theorem dX11_rule_46 : decode cX11_rule 46 = .ok (.iconst 0, 1) := by decide +kernel
theorem dX11_rule_47 : decode cX11_rule 47 = .ok (.goto 4, 3) := by decide +kernel
theorem dX11_rule_50 : decode cX11_rule 50 = .ok (.iconst 1, 1) := by decide +kernel
theorem dX11_rule_51 : decode cX11_rule 51 = .ok (.ireturn, 1) := by decide +kernel
theorem dX11_shock_0 : decode cX11_shock 0 = .ok (.iload_n 1, 1) := by decide +kernel
theorem dX11_shock_1 : decode cX11_shock 1 = .ok (.iconst 0, 1) := by decide +kernel
theorem dX11_shock_2 : decode cX11_shock 2 = .ok (.bipush 10, 2) := by decide +kernel
theorem dX11_shock_4 : decode cX11_shock 4 = .ok (.invokestatic 102, 3) := by decide +kernel
theorem dX11_shock_7 : decode cX11_shock 7 = .ok (.ifCond .eq 22, 3) := by decide +kernel
theorem dX11_shock_10 : decode cX11_shock 10 = .ok (.iload_n 2, 1) := by decide +kernel
theorem dX11_shock_11 : decode cX11_shock 11 = .ok (.iconst 0, 1) := by decide +kernel
theorem dX11_shock_12 : decode cX11_shock 12 = .ok (.bipush 10, 2) := by decide +kernel
theorem dX11_shock_14 : decode cX11_shock 14 = .ok (.invokestatic 102, 3) := by decide +kernel
theorem dX11_shock_17 : decode cX11_shock 17 = .ok (.ifCond .eq 12, 3) := by decide +kernel
theorem dX11_shock_20 : decode cX11_shock 20 = .ok (.iload_n 3, 1) := by decide +kernel
theorem dX11_shock_21 : decode cX11_shock 21 = .ok (.iconst 0, 1) := by decide +kernel
theorem dX11_shock_22 : decode cX11_shock 22 = .ok (.iconst 2, 1) := by decide +kernel
theorem dX11_shock_23 : decode cX11_shock 23 = .ok (.invokestatic 102, 3) := by decide +kernel
theorem dX11_shock_26 : decode cX11_shock 26 = .ok (.ifCond .ne 6, 3) := by decide +kernel
theorem dX11_shock_29 : decode cX11_shock 29 = .ok (.bipush (-100), 2) := by decide +kernel
theorem dX11_shock_31 : decode cX11_shock 31 = .ok (.ireturn, 1) := by decide +kernel
theorem dX11_shock_32 : decode cX11_shock 32 = .ok (.iload_n 1, 1) := by decide +kernel
theorem dX11_shock_33 : decode cX11_shock 33 = .ok (.iload_n 2, 1) := by decide +kernel
theorem dX11_shock_34 : decode cX11_shock 34 = .ok (.if_icmp .ne 6, 3) := by decide +kernel
theorem dX11_shock_37 : decode cX11_shock 37 = .ok (.bipush (-104), 2) := by decide +kernel
theorem dX11_shock_39 : decode cX11_shock 39 = .ok (.ireturn, 1) := by decide +kernel
theorem dX11_shock_40 : decode cX11_shock 40 = .ok (.bipush 10, 2) := by decide +kernel
theorem dX11_shock_42 : decode cX11_shock 42 = .ok (.iload_n 1, 1) := by decide +kernel
theorem dX11_shock_43 : decode cX11_shock 43 = .ok (.isub, 1) := by decide +kernel
theorem dX11_shock_44 : decode cX11_shock 44 = .ok (.iload_n 2, 1) := by decide +kernel
theorem dX11_shock_45 : decode cX11_shock 45 = .ok (.isub, 1) := by decide +kernel
theorem dX11_shock_46 : decode cX11_shock 46 = .ok (.istore 4, 2) := by decide +kernel
theorem dX11_shock_48 : decode cX11_shock 48 = .ok (.iload_n 3, 1) := by decide +kernel
theorem dX11_shock_49 : decode cX11_shock 49 = .ok (.iconst 2, 1) := by decide +kernel
theorem dX11_shock_50 : decode cX11_shock 50 = .ok (.if_icmp .ne 14, 3) := by decide +kernel
theorem dX11_shock_53 : decode cX11_shock 53 = .ok (.iload 4, 2) := by decide +kernel
theorem dX11_shock_55 : decode cX11_shock 55 = .ok (.ifCond .ne 7, 3) := by decide +kernel
theorem dX11_shock_58 : decode cX11_shock 58 = .ok (.iconst 1, 1) := by decide +kernel
theorem dX11_shock_59 : decode cX11_shock 59 = .ok (.goto 4, 3) := by decide +kernel
theorem dX11_shock_62 : decode cX11_shock 62 = .ok (.iconst 0, 1) := by decide +kernel
theorem dX11_shock_63 : decode cX11_shock 63 = .ok (.ireturn, 1) := by decide +kernel
theorem dX11_shock_64 : decode cX11_shock 64 = .ok (.iload 4, 2) := by decide +kernel
theorem dX11_shock_66 : decode cX11_shock 66 = .ok (.i2l, 1) := by decide +kernel
theorem dX11_shock_67 : decode cX11_shock 67 = .ok (.ldc2_w 207, 3) := by decide +kernel
theorem dX11_shock_70 : decode cX11_shock 70 = .ok (.iload_n 3, 1) := by decide +kernel
theorem dX11_shock_71 : decode cX11_shock 71 = .ok (.invokestatic 172, 3) := by decide +kernel
theorem dX11_shock_74 : decode cX11_shock 74 = .ok (.l2i, 1) := by decide +kernel
theorem dX11_shock_75 : decode cX11_shock 75 = .ok (.ireturn, 1) := by decide +kernel
theorem dX11_atOnce_0 : decode cX11_atOnce 0 = .ok (.aload_n 0, 1) := by decide +kernel
theorem dX11_atOnce_1 : decode cX11_atOnce 1 = .ok (.getfield 19, 3) := by decide +kernel
theorem dX11_atOnce_4 : decode cX11_atOnce 4 = .ok (.iload_n 1, 1) := by decide +kernel
theorem dX11_atOnce_5 : decode cX11_atOnce 5 = .ok (.invokevirtual 110, 3) := by decide +kernel
theorem dX11_atOnce_8 : decode cX11_atOnce 8 = .ok (.ifCond .eq 14, 3) := by decide +kernel
theorem dX11_atOnce_11 : decode cX11_atOnce 11 = .ok (.iload_n 2, 1) := by decide +kernel
theorem dX11_atOnce_12 : decode cX11_atOnce 12 = .ok (.iconst 0, 1) := by decide +kernel
theorem dX11_atOnce_13 : decode cX11_atOnce 13 = .ok (.sipush 1000, 3) := by decide +kernel
theorem dX11_atOnce_16 : decode cX11_atOnce 16 = .ok (.invokestatic 102, 3) := by decide +kernel
theorem dX11_atOnce_19 : decode cX11_atOnce 19 = .ok (.ifCond .ne 5, 3) := by decide +kernel
theorem dX11_atOnce_22 : decode cX11_atOnce 22 = .ok (.iconst (-1), 1) := by decide +kernel
theorem dX11_atOnce_23 : decode cX11_atOnce 23 = .ok (.ireturn, 1) := by decide +kernel
theorem dX11_atOnce_24 : decode cX11_atOnce 24 = .ok (.aload_n 0, 1) := by decide +kernel
theorem dX11_atOnce_25 : decode cX11_atOnce 25 = .ok (.getfield 19, 3) := by decide +kernel
theorem dX11_atOnce_28 : decode cX11_atOnce 28 = .ok (.invokevirtual 209, 3) := by decide +kernel
theorem dX11_atOnce_31 : decode cX11_atOnce 31 = .ok (.ifCond .eq 8, 3) := by decide +kernel
theorem dX11_atOnce_34 : decode cX11_atOnce 34 = .ok (.bipush (-2), 2) := by decide +kernel
theorem dX11_atOnce_36 : decode cX11_atOnce 36 = .ok (.goto 15, 3) := by decide +kernel
theorem dX11_atOnce_39 : decode cX11_atOnce 39 = .ok (.iload_n 1, 1) := by decide +kernel
theorem dX11_atOnce_40 : decode cX11_atOnce 40 = .ok (.iload_n 2, 1) := by decide +kernel
theorem dX11_atOnce_41 : decode cX11_atOnce 41 = .ok (.aload_n 0, 1) := by decide +kernel
theorem dX11_atOnce_42 : decode cX11_atOnce 42 = .ok (.getfield 19, 3) := by decide +kernel
theorem dX11_atOnce_45 : decode cX11_atOnce 45 = .ok (.invokevirtual 194, 3) := by decide +kernel
theorem dX11_atOnce_48 : decode cX11_atOnce 48 = .ok (.invokestatic 212, 3) := by decide +kernel
theorem dX11_atOnce_51 : decode cX11_atOnce 51 = .ok (.ireturn, 1) := by decide +kernel
theorem dX11_round_0 : decode cX11_round 0 = .ok (.aload_n 0, 1) := by decide +kernel
theorem dX11_round_1 : decode cX11_round 1 = .ok (.getfield 19, 3) := by decide +kernel
theorem dX11_round_4 : decode cX11_round 4 = .ok (.iload_n 1, 1) := by decide +kernel
theorem dX11_round_5 : decode cX11_round 5 = .ok (.invokevirtual 110, 3) := by decide +kernel
theorem dX11_round_8 : decode cX11_round 8 = .ok (.ifCond .eq 12, 3) := by decide +kernel
theorem dX11_round_11 : decode cX11_round 11 = .ok (.iload_n 2, 1) := by decide +kernel
theorem dX11_round_12 : decode cX11_round 12 = .ok (.iconst 0, 1) := by decide +kernel
theorem dX11_round_13 : decode cX11_round 13 = .ok (.iconst 2, 1) := by decide +kernel
theorem dX11_round_14 : decode cX11_round 14 = .ok (.invokestatic 102, 3) := by decide +kernel
theorem dX11_round_17 : decode cX11_round 17 = .ok (.ifCond .ne 5, 3) := by decide +kernel
theorem dX11_round_20 : decode cX11_round 20 = .ok (.iconst (-1), 1) := by decide +kernel
theorem dX11_round_21 : decode cX11_round 21 = .ok (.ireturn, 1) := by decide +kernel
theorem dX11_round_22 : decode cX11_round 22 = .ok (.aload_n 0, 1) := by decide +kernel
theorem dX11_round_23 : decode cX11_round 23 = .ok (.getfield 19, 3) := by decide +kernel
theorem dX11_round_26 : decode cX11_round 26 = .ok (.invokevirtual 209, 3) := by decide +kernel
theorem dX11_round_29 : decode cX11_round 29 = .ok (.ifCond .eq 6, 3) := by decide +kernel
theorem dX11_round_32 : decode cX11_round 32 = .ok (.bipush (-2), 2) := by decide +kernel
theorem dX11_round_34 : decode cX11_round 34 = .ok (.ireturn, 1) := by decide +kernel
theorem dX11_round_35 : decode cX11_round 35 = .ok (.aload_n 0, 1) := by decide +kernel
theorem dX11_round_36 : decode cX11_round 36 = .ok (.getfield 19, 3) := by decide +kernel
theorem dX11_round_39 : decode cX11_round 39 = .ok (.invokevirtual 194, 3) := by decide +kernel
theorem dX11_round_42 : decode cX11_round 42 = .ok (.istore_n 3, 1) := by decide +kernel
theorem dX11_round_43 : decode cX11_round 43 = .ok (.iload_n 2, 1) := by decide +kernel
theorem dX11_round_44 : decode cX11_round 44 = .ok (.lookupswitch 40 #[(0, 28), (1, 34)], 28) := by decide +kernel
theorem dX11_round_72 : decode cX11_round 72 = .ok (.iload_n 1, 1) := by decide +kernel
theorem dX11_round_73 : decode cX11_round 73 = .ok (.iload_n 3, 1) := by decide +kernel
theorem dX11_round_74 : decode cX11_round 74 = .ok (.invokestatic 218, 3) := by decide +kernel
theorem dX11_round_77 : decode cX11_round 77 = .ok (.ireturn, 1) := by decide +kernel
theorem dX11_round_78 : decode cX11_round 78 = .ok (.iload_n 1, 1) := by decide +kernel
theorem dX11_round_79 : decode cX11_round 79 = .ok (.iload_n 3, 1) := by decide +kernel
theorem dX11_round_80 : decode cX11_round 80 = .ok (.invokestatic 221, 3) := by decide +kernel
theorem dX11_round_83 : decode cX11_round 83 = .ok (.ireturn, 1) := by decide +kernel
theorem dX11_round_84 : decode cX11_round 84 = .ok (.iload_n 1, 1) := by decide +kernel
theorem dX11_round_85 : decode cX11_round 85 = .ok (.iload_n 3, 1) := by decide +kernel
theorem dX11_round_86 : decode cX11_round 86 = .ok (.invokestatic 224, 3) := by decide +kernel
theorem dX11_round_89 : decode cX11_round 89 = .ok (.ireturn, 1) := by decide +kernel
theorem dX11_run_0 : decode cX11_run 0 = .ok (.aload_n 0, 1) := by decide +kernel
theorem dX11_run_1 : decode cX11_run 1 = .ok (.getfield 19, 3) := by decide +kernel
theorem dX11_run_4 : decode cX11_run 4 = .ok (.iload_n 1, 1) := by decide +kernel
theorem dX11_run_5 : decode cX11_run 5 = .ok (.invokevirtual 110, 3) := by decide +kernel
theorem dX11_run_8 : decode cX11_run 8 = .ok (.ifCond .eq 24, 3) := by decide +kernel
theorem dX11_run_11 : decode cX11_run 11 = .ok (.iload_n 3, 1) := by decide +kernel
theorem dX11_run_12 : decode cX11_run 12 = .ok (.iconst 0, 1) := by decide +kernel
theorem dX11_run_13 : decode cX11_run 13 = .ok (.sipush 200, 3) := by decide +kernel
theorem dX11_run_16 : decode cX11_run 16 = .ok (.invokestatic 102, 3) := by decide +kernel
theorem dX11_run_19 : decode cX11_run 19 = .ok (.ifCond .eq 13, 3) := by decide +kernel
theorem dX11_run_22 : decode cX11_run 22 = .ok (.iload 4, 2) := by decide +kernel
theorem dX11_run_24 : decode cX11_run 24 = .ok (.iconst 0, 1) := by decide +kernel
theorem dX11_run_25 : decode cX11_run 25 = .ok (.iconst 1, 1) := by decide +kernel
theorem dX11_run_26 : decode cX11_run 26 = .ok (.invokestatic 102, 3) := by decide +kernel
theorem dX11_run_29 : decode cX11_run 29 = .ok (.ifCond .ne 5, 3) := by decide +kernel
theorem dX11_run_32 : decode cX11_run 32 = .ok (.iconst (-1), 1) := by decide +kernel
theorem dX11_run_33 : decode cX11_run 33 = .ok (.ireturn, 1) := by decide +kernel
theorem dX11_run_34 : decode cX11_run 34 = .ok (.aload_n 0, 1) := by decide +kernel
theorem dX11_run_35 : decode cX11_run 35 = .ok (.getfield 19, 3) := by decide +kernel
theorem dX11_run_38 : decode cX11_run 38 = .ok (.invokevirtual 209, 3) := by decide +kernel
theorem dX11_run_41 : decode cX11_run 41 = .ok (.ifCond .eq 6, 3) := by decide +kernel
theorem dX11_run_44 : decode cX11_run 44 = .ok (.bipush (-2), 2) := by decide +kernel
theorem dX11_run_46 : decode cX11_run 46 = .ok (.ireturn, 1) := by decide +kernel
theorem dX11_run_47 : decode cX11_run 47 = .ok (.aload_n 0, 1) := by decide +kernel
theorem dX11_run_48 : decode cX11_run 48 = .ok (.getfield 19, 3) := by decide +kernel
theorem dX11_run_51 : decode cX11_run 51 = .ok (.invokevirtual 194, 3) := by decide +kernel
theorem dX11_run_54 : decode cX11_run 54 = .ok (.istore 5, 2) := by decide +kernel
theorem dX11_run_56 : decode cX11_run 56 = .ok (.iload 4, 2) := by decide +kernel
theorem dX11_run_58 : decode cX11_run 58 = .ok (.ifCond .ne 14, 3) := by decide +kernel
theorem dX11_run_61 : decode cX11_run 61 = .ok (.iload_n 1, 1) := by decide +kernel
theorem dX11_run_62 : decode cX11_run 62 = .ok (.iload_n 2, 1) := by decide +kernel
theorem dX11_run_63 : decode cX11_run 63 = .ok (.iload_n 3, 1) := by decide +kernel
theorem dX11_run_64 : decode cX11_run 64 = .ok (.iload 5, 2) := by decide +kernel
theorem dX11_run_66 : decode cX11_run 66 = .ok (.invokestatic 227, 3) := by decide +kernel
theorem dX11_run_69 : decode cX11_run 69 = .ok (.goto 11, 3) := by decide +kernel
theorem dX11_run_72 : decode cX11_run 72 = .ok (.iload_n 1, 1) := by decide +kernel
theorem dX11_run_73 : decode cX11_run 73 = .ok (.iload_n 2, 1) := by decide +kernel
theorem dX11_run_74 : decode cX11_run 74 = .ok (.iload_n 3, 1) := by decide +kernel
theorem dX11_run_75 : decode cX11_run 75 = .ok (.iload 5, 2) := by decide +kernel
theorem dX11_run_77 : decode cX11_run 77 = .ok (.invokestatic 231, 3) := by decide +kernel
theorem dX11_run_80 : decode cX11_run 80 = .ok (.ireturn, 1) := by decide +kernel
theorem dX11_coupled_0 : decode cX11_coupled 0 = .ok (.aload_n 0, 1) := by decide +kernel
theorem dX11_coupled_1 : decode cX11_coupled 1 = .ok (.getfield 19, 3) := by decide +kernel
theorem dX11_coupled_4 : decode cX11_coupled 4 = .ok (.iload_n 1, 1) := by decide +kernel
theorem dX11_coupled_5 : decode cX11_coupled 5 = .ok (.invokevirtual 110, 3) := by decide +kernel
theorem dX11_coupled_8 : decode cX11_coupled 8 = .ok (.ifCond .eq 36, 3) := by decide +kernel
theorem dX11_coupled_11 : decode cX11_coupled 11 = .ok (.aload_n 0, 1) := by decide +kernel
theorem dX11_coupled_12 : decode cX11_coupled 12 = .ok (.getfield 19, 3) := by decide +kernel
theorem dX11_coupled_15 : decode cX11_coupled 15 = .ok (.iload_n 2, 1) := by decide +kernel
theorem dX11_coupled_16 : decode cX11_coupled 16 = .ok (.invokevirtual 110, 3) := by decide +kernel
theorem dX11_coupled_19 : decode cX11_coupled 19 = .ok (.ifCond .eq 25, 3) := by decide +kernel
theorem dX11_coupled_22 : decode cX11_coupled 22 = .ok (.iload 4, 2) := by decide +kernel
theorem dX11_coupled_24 : decode cX11_coupled 24 = .ok (.iconst 0, 1) := by decide +kernel
theorem dX11_coupled_25 : decode cX11_coupled 25 = .ok (.sipush 200, 3) := by decide +kernel
theorem dX11_coupled_28 : decode cX11_coupled 28 = .ok (.invokestatic 102, 3) := by decide +kernel
theorem dX11_coupled_31 : decode cX11_coupled 31 = .ok (.ifCond .eq 13, 3) := by decide +kernel
theorem dX11_coupled_34 : decode cX11_coupled 34 = .ok (.iload 5, 2) := by decide +kernel
theorem dX11_coupled_36 : decode cX11_coupled 36 = .ok (.iconst 0, 1) := by decide +kernel
theorem dX11_coupled_37 : decode cX11_coupled 37 = .ok (.iconst 2, 1) := by decide +kernel
theorem dX11_coupled_38 : decode cX11_coupled 38 = .ok (.invokestatic 102, 3) := by decide +kernel
theorem dX11_coupled_41 : decode cX11_coupled 41 = .ok (.ifCond .ne 5, 3) := by decide +kernel
theorem dX11_coupled_44 : decode cX11_coupled 44 = .ok (.iconst (-1), 1) := by decide +kernel
theorem dX11_coupled_45 : decode cX11_coupled 45 = .ok (.ireturn, 1) := by decide +kernel
theorem dX11_coupled_46 : decode cX11_coupled 46 = .ok (.aload_n 0, 1) := by decide +kernel
theorem dX11_coupled_47 : decode cX11_coupled 47 = .ok (.getfield 19, 3) := by decide +kernel
theorem dX11_coupled_50 : decode cX11_coupled 50 = .ok (.invokevirtual 209, 3) := by decide +kernel
theorem dX11_coupled_53 : decode cX11_coupled 53 = .ok (.ifCond .eq 6, 3) := by decide +kernel
theorem dX11_coupled_56 : decode cX11_coupled 56 = .ok (.bipush (-2), 2) := by decide +kernel
theorem dX11_coupled_58 : decode cX11_coupled 58 = .ok (.ireturn, 1) := by decide +kernel
theorem dX11_coupled_59 : decode cX11_coupled 59 = .ok (.aload_n 0, 1) := by decide +kernel
theorem dX11_coupled_60 : decode cX11_coupled 60 = .ok (.getfield 19, 3) := by decide +kernel
theorem dX11_coupled_63 : decode cX11_coupled 63 = .ok (.invokevirtual 194, 3) := by decide +kernel
theorem dX11_coupled_66 : decode cX11_coupled 66 = .ok (.istore 6, 2) := by decide +kernel
theorem dX11_coupled_68 : decode cX11_coupled 68 = .ok (.iload 5, 2) := by decide +kernel
theorem dX11_coupled_70 : decode cX11_coupled 70 = .ok (.lookupswitch 60 #[(0, 26), (1, 49)], 26) := by decide +kernel
theorem dX11_coupled_96 : decode cX11_coupled 96 = .ok (.iload_n 1, 1) := by decide +kernel
theorem dX11_coupled_97 : decode cX11_coupled 97 = .ok (.iload_n 3, 1) := by decide +kernel
theorem dX11_coupled_98 : decode cX11_coupled 98 = .ok (.iload 4, 2) := by decide +kernel
theorem dX11_coupled_100 : decode cX11_coupled 100 = .ok (.iload 6, 2) := by decide +kernel
theorem dX11_coupled_102 : decode cX11_coupled 102 = .ok (.invokestatic 227, 3) := by decide +kernel
theorem dX11_coupled_105 : decode cX11_coupled 105 = .ok (.iload_n 2, 1) := by decide +kernel
theorem dX11_coupled_106 : decode cX11_coupled 106 = .ok (.iload_n 3, 1) := by decide +kernel
theorem dX11_coupled_107 : decode cX11_coupled 107 = .ok (.iload 4, 2) := by decide +kernel
theorem dX11_coupled_109 : decode cX11_coupled 109 = .ok (.iload 6, 2) := by decide +kernel
theorem dX11_coupled_111 : decode cX11_coupled 111 = .ok (.invokestatic 227, 3) := by decide +kernel
theorem dX11_coupled_114 : decode cX11_coupled 114 = .ok (.ixor, 1) := by decide +kernel
theorem dX11_coupled_115 : decode cX11_coupled 115 = .ok (.invokestatic 146, 3) := by decide +kernel
theorem dX11_coupled_118 : decode cX11_coupled 118 = .ok (.ireturn, 1) := by decide +kernel
theorem dX11_coupled_119 : decode cX11_coupled 119 = .ok (.iload_n 1, 1) := by decide +kernel
theorem dX11_coupled_120 : decode cX11_coupled 120 = .ok (.iload_n 2, 1) := by decide +kernel
theorem dX11_coupled_121 : decode cX11_coupled 121 = .ok (.iload_n 3, 1) := by decide +kernel
theorem dX11_coupled_122 : decode cX11_coupled 122 = .ok (.iload 4, 2) := by decide +kernel
theorem dX11_coupled_124 : decode cX11_coupled 124 = .ok (.iload 6, 2) := by decide +kernel
theorem dX11_coupled_126 : decode cX11_coupled 126 = .ok (.invokestatic 234, 3) := by decide +kernel
theorem dX11_coupled_129 : decode cX11_coupled 129 = .ok (.ireturn, 1) := by decide +kernel
theorem dX11_coupled_130 : decode cX11_coupled 130 = .ok (.iload_n 1, 1) := by decide +kernel
theorem dX11_coupled_131 : decode cX11_coupled 131 = .ok (.iload_n 2, 1) := by decide +kernel
theorem dX11_coupled_132 : decode cX11_coupled 132 = .ok (.iload_n 3, 1) := by decide +kernel
theorem dX11_coupled_133 : decode cX11_coupled 133 = .ok (.iload 4, 2) := by decide +kernel
theorem dX11_coupled_135 : decode cX11_coupled 135 = .ok (.iload 6, 2) := by decide +kernel
theorem dX11_coupled_137 : decode cX11_coupled 137 = .ok (.invokestatic 238, 3) := by decide +kernel
theorem dX11_coupled_140 : decode cX11_coupled 140 = .ok (.ireturn, 1) := by decide +kernel
theorem dX11_cells_0 : decode cX11_cells 0 = .ok (.iload_n 1, 1) := by decide +kernel
theorem dX11_cells_1 : decode cX11_cells 1 = .ok (.invokestatic 241, 3) := by decide +kernel
theorem dX11_cells_4 : decode cX11_cells 4 = .ok (.ifCond .eq 10, 3) := by decide +kernel
theorem dX11_cells_7 : decode cX11_cells 7 = .ok (.iload_n 2, 1) := by decide +kernel
theorem dX11_cells_8 : decode cX11_cells 8 = .ok (.invokestatic 241, 3) := by decide +kernel
theorem dX11_cells_11 : decode cX11_cells 11 = .ok (.ifCond .ne 5, 3) := by decide +kernel
theorem dX11_cells_14 : decode cX11_cells 14 = .ok (.iconst (-1), 1) := by decide +kernel
theorem dX11_cells_15 : decode cX11_cells 15 = .ok (.ireturn, 1) := by decide +kernel
theorem dX11_cells_16 : decode cX11_cells 16 = .ok (.iload_n 1, 1) := by decide +kernel
theorem dX11_cells_17 : decode cX11_cells 17 = .ok (.iload_n 2, 1) := by decide +kernel
theorem dX11_cells_18 : decode cX11_cells 18 = .ok (.invokestatic 244, 3) := by decide +kernel
theorem dX11_cells_21 : decode cX11_cells 21 = .ok (.ireturn, 1) := by decide +kernel
theorem dX11_orders_0 : decode cX11_orders 0 = .ok (.iload_n 1, 1) := by decide +kernel
theorem dX11_orders_1 : decode cX11_orders 1 = .ok (.invokestatic 241, 3) := by decide +kernel
theorem dX11_orders_4 : decode cX11_orders 4 = .ok (.ifCond .eq 10, 3) := by decide +kernel
theorem dX11_orders_7 : decode cX11_orders 7 = .ok (.iload_n 2, 1) := by decide +kernel
theorem dX11_orders_8 : decode cX11_orders 8 = .ok (.invokestatic 241, 3) := by decide +kernel
theorem dX11_orders_11 : decode cX11_orders 11 = .ok (.ifCond .ne 7, 3) := by decide +kernel
theorem dX11_orders_14 : decode cX11_orders 14 = .ok (.ldc2_w 160, 3) := by decide +kernel
theorem dX11_orders_17 : decode cX11_orders 17 = .ok (.lreturn, 1) := by decide +kernel
theorem dX11_orders_18 : decode cX11_orders 18 = .ok (.aload_n 0, 1) := by decide +kernel
theorem dX11_orders_19 : decode cX11_orders 19 = .ok (.getfield 58, 3) := by decide +kernel
theorem dX11_orders_22 : decode cX11_orders 22 = .ok (.iload_n 1, 1) := by decide +kernel
theorem dX11_orders_23 : decode cX11_orders 23 = .ok (.iload_n 2, 1) := by decide +kernel
theorem dX11_orders_24 : decode cX11_orders 24 = .ok (.invokevirtual 247, 3) := by decide +kernel
theorem dX11_orders_27 : decode cX11_orders 27 = .ok (.lreturn, 1) := by decide +kernel
theorem dX11_ways_0 : decode cX11_ways 0 = .ok (.iload_n 1, 1) := by decide +kernel
theorem dX11_ways_1 : decode cX11_ways 1 = .ok (.invokestatic 250, 3) := by decide +kernel
theorem dX11_ways_4 : decode cX11_ways 4 = .ok (.ifCond .eq 20, 3) := by decide +kernel
theorem dX11_ways_7 : decode cX11_ways 7 = .ok (.iload_n 2, 1) := by decide +kernel
theorem dX11_ways_8 : decode cX11_ways 8 = .ok (.invokestatic 250, 3) := by decide +kernel
theorem dX11_ways_11 : decode cX11_ways 11 = .ok (.ifCond .eq 13, 3) := by decide +kernel
theorem dX11_ways_14 : decode cX11_ways 14 = .ok (.iload_n 3, 1) := by decide +kernel
theorem dX11_ways_15 : decode cX11_ways 15 = .ok (.iconst 0, 1) := by decide +kernel
theorem dX11_ways_16 : decode cX11_ways 16 = .ok (.bipush 8, 2) := by decide +kernel
theorem dX11_ways_18 : decode cX11_ways 18 = .ok (.invokestatic 102, 3) := by decide +kernel
theorem dX11_ways_21 : decode cX11_ways 21 = .ok (.ifCond .ne 7, 3) := by decide +kernel
theorem dX11_ways_24 : decode cX11_ways 24 = .ok (.ldc2_w 160, 3) := by decide +kernel
theorem dX11_ways_27 : decode cX11_ways 27 = .ok (.lreturn, 1) := by decide +kernel
theorem dX11_ways_28 : decode cX11_ways 28 = .ok (.iload_n 1, 1) := by decide +kernel
theorem dX11_ways_29 : decode cX11_ways 29 = .ok (.invokestatic 146, 3) := by decide +kernel
theorem dX11_ways_32 : decode cX11_ways 32 = .ok (.iload_n 2, 1) := by decide +kernel
theorem dX11_ways_33 : decode cX11_ways 33 = .ok (.invokestatic 146, 3) := by decide +kernel
theorem dX11_ways_36 : decode cX11_ways 36 = .ok (.if_icmp .eq 7, 3) := by decide +kernel
theorem dX11_ways_39 : decode cX11_ways 39 = .ok (.ldc2_w 160, 3) := by decide +kernel
theorem dX11_ways_42 : decode cX11_ways 42 = .ok (.lreturn, 1) := by decide +kernel
theorem dX11_ways_43 : decode cX11_ways 43 = .ok (.aload_n 0, 1) := by decide +kernel
theorem dX11_ways_44 : decode cX11_ways 44 = .ok (.getfield 58, 3) := by decide +kernel
theorem dX11_ways_47 : decode cX11_ways 47 = .ok (.iload_n 1, 1) := by decide +kernel
theorem dX11_ways_48 : decode cX11_ways 48 = .ok (.iload_n 2, 1) := by decide +kernel
theorem dX11_ways_49 : decode cX11_ways 49 = .ok (.iload_n 3, 1) := by decide +kernel
theorem dX11_ways_50 : decode cX11_ways 50 = .ok (.invokevirtual 253, 3) := by decide +kernel
theorem dX11_ways_53 : decode cX11_ways 53 = .ok (.lreturn, 1) := by decide +kernel
theorem dX11_view_0 : decode cX11_view 0 = .ok (.aload_n 0, 1) := by decide +kernel
theorem dX11_view_1 : decode cX11_view 1 = .ok (.getfield 19, 3) := by decide +kernel
theorem dX11_view_4 : decode cX11_view 4 = .ok (.iload_n 1, 1) := by decide +kernel
theorem dX11_view_5 : decode cX11_view 5 = .ok (.invokevirtual 110, 3) := by decide +kernel
theorem dX11_view_8 : decode cX11_view 8 = .ok (.ifCond .eq 25, 3) := by decide +kernel
theorem dX11_view_11 : decode cX11_view 11 = .ok (.aload_n 0, 1) := by decide +kernel
theorem dX11_view_12 : decode cX11_view 12 = .ok (.getfield 19, 3) := by decide +kernel
theorem dX11_view_15 : decode cX11_view 15 = .ok (.iload_n 2, 1) := by decide +kernel
theorem dX11_view_16 : decode cX11_view 16 = .ok (.invokevirtual 110, 3) := by decide +kernel
theorem dX11_view_19 : decode cX11_view 19 = .ok (.ifCond .eq 14, 3) := by decide +kernel
theorem dX11_view_22 : decode cX11_view 22 = .ok (.iload_n 1, 1) := by decide +kernel
theorem dX11_view_23 : decode cX11_view 23 = .ok (.invokestatic 146, 3) := by decide +kernel
theorem dX11_view_26 : decode cX11_view 26 = .ok (.iload_n 2, 1) := by decide +kernel
theorem dX11_view_27 : decode cX11_view 27 = .ok (.invokestatic 146, 3) := by decide +kernel
theorem dX11_view_30 : decode cX11_view 30 = .ok (.if_icmp .le 5, 3) := by decide +kernel
theorem dX11_view_33 : decode cX11_view 33 = .ok (.iconst (-1), 1) := by decide +kernel
theorem dX11_view_34 : decode cX11_view 34 = .ok (.ireturn, 1) := by decide +kernel
theorem dX11_view_35 : decode cX11_view 35 = .ok (.aload_n 0, 1) := by decide +kernel
theorem dX11_view_36 : decode cX11_view 36 = .ok (.getfield 19, 3) := by decide +kernel
theorem dX11_view_39 : decode cX11_view 39 = .ok (.invokevirtual 194, 3) := by decide +kernel
theorem dX11_view_42 : decode cX11_view 42 = .ok (.istore_n 3, 1) := by decide +kernel
theorem dX11_view_43 : decode cX11_view 43 = .ok (.iload_n 1, 1) := by decide +kernel
theorem dX11_view_44 : decode cX11_view 44 = .ok (.iload_n 2, 1) := by decide +kernel
theorem dX11_view_45 : decode cX11_view 45 = .ok (.iload_n 3, 1) := by decide +kernel
theorem dX11_view_46 : decode cX11_view 46 = .ok (.invokestatic 257, 3) := by decide +kernel
theorem dX11_view_49 : decode cX11_view 49 = .ok (.istore 4, 2) := by decide +kernel
theorem dX11_view_51 : decode cX11_view 51 = .ok (.iload 4, 2) := by decide +kernel
theorem dX11_view_53 : decode cX11_view 53 = .ok (.iload_n 2, 1) := by decide +kernel
theorem dX11_view_54 : decode cX11_view 54 = .ok (.iload 4, 2) := by decide +kernel
theorem dX11_view_56 : decode cX11_view 56 = .ok (.iconst (-1), 1) := by decide +kernel
theorem dX11_view_57 : decode cX11_view 57 = .ok (.ixor, 1) := by decide +kernel
theorem dX11_view_58 : decode cX11_view 58 = .ok (.iand, 1) := by decide +kernel
theorem dX11_view_59 : decode cX11_view 59 = .ok (.iload_n 3, 1) := by decide +kernel
theorem dX11_view_60 : decode cX11_view 60 = .ok (.invokestatic 262, 3) := by decide +kernel
theorem dX11_view_63 : decode cX11_view 63 = .ok (.ireturn, 1) := by decide +kernel
theorem dX11_seen_0 : decode cX11_seen 0 = .ok (.aload_n 0, 1) := by decide +kernel
theorem dX11_seen_1 : decode cX11_seen 1 = .ok (.getfield 19, 3) := by decide +kernel
theorem dX11_seen_4 : decode cX11_seen 4 = .ok (.invokevirtual 194, 3) := by decide +kernel
theorem dX11_seen_7 : decode cX11_seen 7 = .ok (.istore_n 2, 1) := by decide +kernel
theorem dX11_seen_8 : decode cX11_seen 8 = .ok (.iload_n 1, 1) := by decide +kernel
theorem dX11_seen_9 : decode cX11_seen 9 = .ok (.iload_n 2, 1) := by decide +kernel
theorem dX11_seen_10 : decode cX11_seen 10 = .ok (.invokestatic 265, 3) := by decide +kernel
theorem dX11_seen_13 : decode cX11_seen 13 = .ok (.ifCond .ne 5, 3) := by decide +kernel
theorem dX11_seen_16 : decode cX11_seen 16 = .ok (.iconst (-1), 1) := by decide +kernel
theorem dX11_seen_17 : decode cX11_seen 17 = .ok (.ireturn, 1) := by decide +kernel
theorem dX11_seen_18 : decode cX11_seen 18 = .ok (.iload_n 1, 1) := by decide +kernel
theorem dX11_seen_19 : decode cX11_seen 19 = .ok (.iconst 1, 1) := by decide +kernel
theorem dX11_seen_20 : decode cX11_seen 20 = .ok (.iload_n 2, 1) := by decide +kernel
theorem dX11_seen_21 : decode cX11_seen 21 = .ok (.invokestatic 269, 3) := by decide +kernel
theorem dX11_seen_24 : decode cX11_seen 24 = .ok (.iload_n 1, 1) := by decide +kernel
theorem dX11_seen_25 : decode cX11_seen 25 = .ok (.iconst 2, 1) := by decide +kernel
theorem dX11_seen_26 : decode cX11_seen 26 = .ok (.iload_n 2, 1) := by decide +kernel
theorem dX11_seen_27 : decode cX11_seen 27 = .ok (.invokestatic 269, 3) := by decide +kernel
theorem dX11_seen_30 : decode cX11_seen 30 = .ok (.iload_n 2, 1) := by decide +kernel
theorem dX11_seen_31 : decode cX11_seen 31 = .ok (.invokestatic 272, 3) := by decide +kernel
theorem dX11_seen_34 : decode cX11_seen 34 = .ok (.ireturn, 1) := by decide +kernel
theorem dX11_word_0 : decode cX11_word 0 = .ok (.aload_n 0, 1) := by decide +kernel
theorem dX11_word_1 : decode cX11_word 1 = .ok (.getfield 19, 3) := by decide +kernel
theorem dX11_word_4 : decode cX11_word 4 = .ok (.invokevirtual 194, 3) := by decide +kernel
theorem dX11_word_7 : decode cX11_word 7 = .ok (.istore_n 3, 1) := by decide +kernel
theorem dX11_word_8 : decode cX11_word 8 = .ok (.iload_n 1, 1) := by decide +kernel
theorem dX11_word_9 : decode cX11_word 9 = .ok (.iload_n 3, 1) := by decide +kernel
theorem dX11_word_10 : decode cX11_word 10 = .ok (.invokestatic 265, 3) := by decide +kernel
theorem dX11_word_13 : decode cX11_word 13 = .ok (.ifCond .ne 5, 3) := by decide +kernel
theorem dX11_word_16 : decode cX11_word 16 = .ok (.iconst (-1), 1) := by decide +kernel
theorem dX11_word_17 : decode cX11_word 17 = .ok (.ireturn, 1) := by decide +kernel
theorem dX11_word_18 : decode cX11_word 18 = .ok (.iload_n 1, 1) := by decide +kernel
theorem dX11_word_19 : decode cX11_word 19 = .ok (.iconst 1, 1) := by decide +kernel
theorem dX11_word_20 : decode cX11_word 20 = .ok (.iload_n 3, 1) := by decide +kernel
theorem dX11_word_21 : decode cX11_word 21 = .ok (.invokestatic 269, 3) := by decide +kernel
theorem dX11_word_24 : decode cX11_word 24 = .ok (.istore 4, 2) := by decide +kernel
theorem dX11_word_26 : decode cX11_word 26 = .ok (.iload_n 1, 1) := by decide +kernel
theorem dX11_word_27 : decode cX11_word 27 = .ok (.iconst 2, 1) := by decide +kernel
theorem dX11_word_28 : decode cX11_word 28 = .ok (.iload_n 3, 1) := by decide +kernel
theorem dX11_word_29 : decode cX11_word 29 = .ok (.invokestatic 269, 3) := by decide +kernel
theorem dX11_word_32 : decode cX11_word 32 = .ok (.istore 5, 2) := by decide +kernel
theorem dX11_word_34 : decode cX11_word 34 = .ok (.iload_n 2, 1) := by decide +kernel
theorem dX11_word_35 : decode cX11_word 35 = .ok (.tableswitch 59 0 3 #[29, 38, 47, 53], 29) := by decide +kernel
theorem dX11_word_64 : decode cX11_word 64 = .ok (.iload 4, 2) := by decide +kernel
theorem dX11_word_66 : decode cX11_word 66 = .ok (.iload 5, 2) := by decide +kernel
theorem dX11_word_68 : decode cX11_word 68 = .ok (.iload_n 3, 1) := by decide +kernel
theorem dX11_word_69 : decode cX11_word 69 = .ok (.invokestatic 275, 3) := by decide +kernel
theorem dX11_word_72 : decode cX11_word 72 = .ok (.ireturn, 1) := by decide +kernel
theorem dX11_word_73 : decode cX11_word 73 = .ok (.iload 4, 2) := by decide +kernel
theorem dX11_word_75 : decode cX11_word 75 = .ok (.iload 5, 2) := by decide +kernel
theorem dX11_word_77 : decode cX11_word 77 = .ok (.iload_n 3, 1) := by decide +kernel
theorem dX11_word_78 : decode cX11_word 78 = .ok (.invokestatic 278, 3) := by decide +kernel
theorem dX11_word_81 : decode cX11_word 81 = .ok (.ireturn, 1) := by decide +kernel
theorem dX11_word_82 : decode cX11_word 82 = .ok (.iload 4, 2) := by decide +kernel
theorem dX11_word_84 : decode cX11_word 84 = .ok (.invokestatic 146, 3) := by decide +kernel
theorem dX11_word_87 : decode cX11_word 87 = .ok (.ireturn, 1) := by decide +kernel
theorem dX11_word_88 : decode cX11_word 88 = .ok (.iload 5, 2) := by decide +kernel
theorem dX11_word_90 : decode cX11_word 90 = .ok (.invokestatic 146, 3) := by decide +kernel
theorem dX11_word_93 : decode cX11_word 93 = .ok (.ireturn, 1) := by decide +kernel
theorem dX11_word_94 : decode cX11_word 94 = .ok (.iload_n 2, 1) := by decide +kernel
theorem dX11_word_95 : decode cX11_word 95 = .ok (.bipush 10, 2) := by decide +kernel
theorem dX11_word_97 : decode cX11_word 97 = .ok (.bipush 9, 2) := by decide +kernel
theorem dX11_word_99 : decode cX11_word 99 = .ok (.iload_n 3, 1) := by decide +kernel
theorem dX11_word_100 : decode cX11_word 100 = .ok (.iadd, 1) := by decide +kernel
theorem dX11_word_101 : decode cX11_word 101 = .ok (.invokestatic 102, 3) := by decide +kernel
theorem dX11_word_104 : decode cX11_word 104 = .ok (.ifCond .eq 17, 3) := by decide +kernel
theorem dX11_word_107 : decode cX11_word 107 = .ok (.iload 4, 2) := by decide +kernel
theorem dX11_word_109 : decode cX11_word 109 = .ok (.iload 5, 2) := by decide +kernel
theorem dX11_word_111 : decode cX11_word 111 = .ok (.iload_n 2, 1) := by decide +kernel
theorem dX11_word_112 : decode cX11_word 112 = .ok (.bipush 10, 2) := by decide +kernel
theorem dX11_word_114 : decode cX11_word 114 = .ok (.isub, 1) := by decide +kernel
theorem dX11_word_115 : decode cX11_word 115 = .ok (.invokestatic 281, 3) := by decide +kernel
theorem dX11_word_118 : decode cX11_word 118 = .ok (.goto 4, 3) := by decide +kernel
theorem dX11_word_121 : decode cX11_word 121 = .ok (.iconst (-1), 1) := by decide +kernel
theorem dX11_word_122 : decode cX11_word 122 = .ok (.ireturn, 1) := by decide +kernel
theorem dX11_sheet_0 : decode cX11_sheet 0 = .ok (.iload_n 1, 1) := by decide +kernel
theorem dX11_sheet_1 : decode cX11_sheet 1 = .ok (.invokestatic 284, 3) := by decide +kernel
theorem dX11_sheet_4 : decode cX11_sheet 4 = .ok (.ifCond .eq 16, 3) := by decide +kernel
theorem dX11_sheet_7 : decode cX11_sheet 7 = .ok (.iload_n 2, 1) := by decide +kernel
theorem dX11_sheet_8 : decode cX11_sheet 8 = .ok (.invokestatic 287, 3) := by decide +kernel
theorem dX11_sheet_11 : decode cX11_sheet 11 = .ok (.ifCond .eq 9, 3) := by decide +kernel
theorem dX11_sheet_14 : decode cX11_sheet 14 = .ok (.iload_n 3, 1) := by decide +kernel
theorem dX11_sheet_15 : decode cX11_sheet 15 = .ok (.bipush 64, 2) := by decide +kernel
theorem dX11_sheet_17 : decode cX11_sheet 17 = .ok (.if_icmp .le 5, 3) := by decide +kernel
theorem dX11_sheet_20 : decode cX11_sheet 20 = .ok (.iconst (-1), 1) := by decide +kernel
theorem dX11_sheet_21 : decode cX11_sheet 21 = .ok (.ireturn, 1) := by decide +kernel
theorem dX11_sheet_22 : decode cX11_sheet 22 = .ok (.iload_n 3, 1) := by decide +kernel
theorem dX11_sheet_23 : decode cX11_sheet 23 = .ok (.ifCond .ge 6, 3) := by decide +kernel
theorem dX11_sheet_26 : decode cX11_sheet 26 = .ok (.bipush (-14), 2) := by decide +kernel
theorem dX11_sheet_28 : decode cX11_sheet 28 = .ok (.ireturn, 1) := by decide +kernel
theorem dX11_sheet_29 : decode cX11_sheet 29 = .ok (.aload_n 0, 1) := by decide +kernel
theorem dX11_sheet_30 : decode cX11_sheet 30 = .ok (.getfield 65, 3) := by decide +kernel
theorem dX11_sheet_33 : decode cX11_sheet 33 = .ok (.iload_n 1, 1) := by decide +kernel
theorem dX11_sheet_34 : decode cX11_sheet 34 = .ok (.iload_n 2, 1) := by decide +kernel
theorem dX11_sheet_35 : decode cX11_sheet 35 = .ok (.iload_n 3, 1) := by decide +kernel
theorem dX11_sheet_36 : decode cX11_sheet 36 = .ok (.invokevirtual 290, 3) := by decide +kernel
theorem dX11_sheet_39 : decode cX11_sheet 39 = .ok (.iconst 1, 1) := by decide +kernel
theorem dX11_sheet_40 : decode cX11_sheet 40 = .ok (.ireturn, 1) := by decide +kernel
theorem dX11_lay_0 : decode cX11_lay 0 = .ok (.iload_n 1, 1) := by decide +kernel
theorem dX11_lay_1 : decode cX11_lay 1 = .ok (.invokestatic 284, 3) := by decide +kernel
theorem dX11_lay_4 : decode cX11_lay 4 = .ok (.ifCond .ne 5, 3) := by decide +kernel
theorem dX11_lay_7 : decode cX11_lay 7 = .ok (.iconst (-1), 1) := by decide +kernel
theorem dX11_lay_8 : decode cX11_lay 8 = .ok (.ireturn, 1) := by decide +kernel
theorem dX11_lay_9 : decode cX11_lay 9 = .ok (.aload_n 0, 1) := by decide +kernel
theorem dX11_lay_10 : decode cX11_lay 10 = .ok (.getfield 65, 3) := by decide +kernel
theorem dX11_lay_13 : decode cX11_lay 13 = .ok (.iload_n 1, 1) := by decide +kernel
theorem dX11_lay_14 : decode cX11_lay 14 = .ok (.invokevirtual 294, 3) := by decide +kernel
theorem dX11_lay_17 : decode cX11_lay 17 = .ok (.ifCond .eq 6, 3) := by decide +kernel
theorem dX11_lay_20 : decode cX11_lay 20 = .ok (.bipush (-11), 2) := by decide +kernel
theorem dX11_lay_22 : decode cX11_lay 22 = .ok (.ireturn, 1) := by decide +kernel
theorem dX11_lay_23 : decode cX11_lay 23 = .ok (.aload_n 0, 1) := by decide +kernel
theorem dX11_lay_24 : decode cX11_lay 24 = .ok (.getfield 65, 3) := by decide +kernel
theorem dX11_lay_27 : decode cX11_lay 27 = .ok (.iload_n 1, 1) := by decide +kernel
theorem dX11_lay_28 : decode cX11_lay 28 = .ok (.iload_n 2, 1) := by decide +kernel
theorem dX11_lay_29 : decode cX11_lay 29 = .ok (.invokevirtual 297, 3) := by decide +kernel
theorem dX11_lay_32 : decode cX11_lay 32 = .ok (.ifCond .ne 6, 3) := by decide +kernel
theorem dX11_lay_35 : decode cX11_lay 35 = .ok (.bipush (-12), 2) := by decide +kernel
theorem dX11_lay_37 : decode cX11_lay 37 = .ok (.ireturn, 1) := by decide +kernel
theorem dX11_lay_38 : decode cX11_lay 38 = .ok (.aload_n 0, 1) := by decide +kernel
theorem dX11_lay_39 : decode cX11_lay 39 = .ok (.getfield 65, 3) := by decide +kernel
theorem dX11_lay_42 : decode cX11_lay 42 = .ok (.iload_n 1, 1) := by decide +kernel
theorem dX11_lay_43 : decode cX11_lay 43 = .ok (.iload_n 2, 1) := by decide +kernel
theorem dX11_lay_44 : decode cX11_lay 44 = .ok (.iload_n 3, 1) := by decide +kernel
theorem dX11_lay_45 : decode cX11_lay 45 = .ok (.invokevirtual 300, 3) := by decide +kernel
theorem dX11_lay_48 : decode cX11_lay 48 = .ok (.iconst 1, 1) := by decide +kernel
theorem dX11_lay_49 : decode cX11_lay 49 = .ok (.ireturn, 1) := by decide +kernel
theorem dX11_judge_0 : decode cX11_judge 0 = .ok (.aload_n 0, 1) := by decide +kernel
theorem dX11_judge_1 : decode cX11_judge 1 = .ok (.getfield 19, 3) := by decide +kernel
theorem dX11_judge_4 : decode cX11_judge 4 = .ok (.iload_n 1, 1) := by decide +kernel
theorem dX11_judge_5 : decode cX11_judge 5 = .ok (.invokevirtual 110, 3) := by decide +kernel
theorem dX11_judge_8 : decode cX11_judge 8 = .ok (.ifCond .eq 17, 3) := by decide +kernel
theorem dX11_judge_11 : decode cX11_judge 11 = .ok (.iload_n 2, 1) := by decide +kernel
theorem dX11_judge_12 : decode cX11_judge 12 = .ok (.invokestatic 284, 3) := by decide +kernel
theorem dX11_judge_15 : decode cX11_judge 15 = .ok (.ifCond .eq 10, 3) := by decide +kernel
theorem dX11_judge_18 : decode cX11_judge 18 = .ok (.iload_n 3, 1) := by decide +kernel
theorem dX11_judge_19 : decode cX11_judge 19 = .ok (.invokestatic 287, 3) := by decide +kernel
theorem dX11_judge_22 : decode cX11_judge 22 = .ok (.ifCond .ne 5, 3) := by decide +kernel
theorem dX11_judge_25 : decode cX11_judge 25 = .ok (.iconst (-1), 1) := by decide +kernel
theorem dX11_judge_26 : decode cX11_judge 26 = .ok (.ireturn, 1) := by decide +kernel
theorem dX11_judge_27 : decode cX11_judge 27 = .ok (.aload_n 0, 1) := by decide +kernel
theorem dX11_judge_28 : decode cX11_judge 28 = .ok (.getfield 37, 3) := by decide +kernel
theorem dX11_judge_31 : decode cX11_judge 31 = .ok (.invokevirtual 130, 3) := by decide +kernel
theorem dX11_judge_34 : decode cX11_judge 34 = .ok (.iload_n 1, 1) := by decide +kernel
theorem dX11_judge_35 : decode cX11_judge 35 = .ok (.invokevirtual 140, 3) := by decide +kernel
theorem dX11_judge_38 : decode cX11_judge 38 = .ok (.ifCond .ne 6, 3) := by decide +kernel
theorem dX11_judge_41 : decode cX11_judge 41 = .ok (.bipush (-4), 2) := by decide +kernel
theorem dX11_judge_43 : decode cX11_judge 43 = .ok (.ireturn, 1) := by decide +kernel
theorem dX11_judge_44 : decode cX11_judge 44 = .ok (.aload_n 0, 1) := by decide +kernel
theorem dX11_judge_45 : decode cX11_judge 45 = .ok (.getfield 65, 3) := by decide +kernel
theorem dX11_judge_48 : decode cX11_judge 48 = .ok (.iload_n 2, 1) := by decide +kernel
theorem dX11_judge_49 : decode cX11_judge 49 = .ok (.invokevirtual 294, 3) := by decide +kernel
theorem dX11_judge_52 : decode cX11_judge 52 = .ok (.ifCond .eq 6, 3) := by decide +kernel
theorem dX11_judge_55 : decode cX11_judge 55 = .ok (.bipush (-11), 2) := by decide +kernel
theorem dX11_judge_57 : decode cX11_judge 57 = .ok (.ireturn, 1) := by decide +kernel
theorem dX11_judge_58 : decode cX11_judge 58 = .ok (.aload_n 0, 1) := by decide +kernel
theorem dX11_judge_59 : decode cX11_judge 59 = .ok (.getfield 65, 3) := by decide +kernel
theorem dX11_judge_62 : decode cX11_judge 62 = .ok (.iload_n 2, 1) := by decide +kernel
theorem dX11_judge_63 : decode cX11_judge 63 = .ok (.iload_n 3, 1) := by decide +kernel
theorem dX11_judge_64 : decode cX11_judge 64 = .ok (.invokevirtual 303, 3) := by decide +kernel
theorem dX11_judge_67 : decode cX11_judge 67 = .ok (.ifCond .ne 6, 3) := by decide +kernel
theorem dX11_judge_70 : decode cX11_judge 70 = .ok (.bipush (-13), 2) := by decide +kernel
theorem dX11_judge_72 : decode cX11_judge 72 = .ok (.ireturn, 1) := by decide +kernel
theorem dX11_judge_73 : decode cX11_judge 73 = .ok (.aload_n 0, 1) := by decide +kernel
theorem dX11_judge_74 : decode cX11_judge 74 = .ok (.aload_n 0, 1) := by decide +kernel
theorem dX11_judge_75 : decode cX11_judge 75 = .ok (.getfield 37, 3) := by decide +kernel
theorem dX11_judge_78 : decode cX11_judge 78 = .ok (.iload_n 1, 1) := by decide +kernel
theorem dX11_judge_79 : decode cX11_judge 79 = .ok (.invokevirtual 137, 3) := by decide +kernel
theorem dX11_judge_82 : decode cX11_judge 82 = .ok (.iload_n 2, 1) := by decide +kernel
theorem dX11_judge_83 : decode cX11_judge 83 = .ok (.iload 4, 2) := by decide +kernel
theorem dX11_judge_85 : decode cX11_judge 85 = .ok (.invokevirtual 306, 3) := by decide +kernel
theorem dX11_judge_88 : decode cX11_judge 88 = .ok (.ireturn, 1) := by decide +kernel
theorem dX11_count_0 : decode cX11_count 0 = .ok (.iload_n 1, 1) := by decide +kernel
theorem dX11_count_1 : decode cX11_count 1 = .ok (.tableswitch 68 0 2 #[27, 35, 43], 27) := by decide +kernel
theorem dX11_count_28 : decode cX11_count 28 = .ok (.aload_n 0, 1) := by decide +kernel
theorem dX11_count_29 : decode cX11_count 29 = .ok (.getfield 19, 3) := by decide +kernel
theorem dX11_count_32 : decode cX11_count 32 = .ok (.invokevirtual 310, 3) := by decide +kernel
theorem dX11_count_35 : decode cX11_count 35 = .ok (.ireturn, 1) := by decide +kernel
theorem dX11_count_36 : decode cX11_count 36 = .ok (.aload_n 0, 1) := by decide +kernel
theorem dX11_count_37 : decode cX11_count 37 = .ok (.getfield 10, 3) := by decide +kernel
theorem dX11_count_40 : decode cX11_count 40 = .ok (.invokevirtual 73, 3) := by decide +kernel
theorem dX11_count_43 : decode cX11_count 43 = .ok (.ireturn, 1) := by decide +kernel
theorem dX11_count_44 : decode cX11_count 44 = .ok (.aload_n 0, 1) := by decide +kernel
theorem dX11_count_45 : decode cX11_count 45 = .ok (.getfield 65, 3) := by decide +kernel
theorem dX11_count_48 : decode cX11_count 48 = .ok (.iconst 0, 1) := by decide +kernel
theorem dX11_count_49 : decode cX11_count 49 = .ok (.invokevirtual 294, 3) := by decide +kernel
theorem dX11_count_52 : decode cX11_count 52 = .ok (.ifCond .eq 8, 3) := by decide +kernel
theorem dX11_count_55 : decode cX11_count 55 = .ok (.bipush (-4), 2) := by decide +kernel
theorem dX11_count_57 : decode cX11_count 57 = .ok (.goto 11, 3) := by decide +kernel
theorem dX11_count_60 : decode cX11_count 60 = .ok (.aload_n 0, 1) := by decide +kernel
theorem dX11_count_61 : decode cX11_count 61 = .ok (.getfield 65, 3) := by decide +kernel
theorem dX11_count_64 : decode cX11_count 64 = .ok (.iconst 0, 1) := by decide +kernel
theorem dX11_count_65 : decode cX11_count 65 = .ok (.invokevirtual 313, 3) := by decide +kernel
theorem dX11_count_68 : decode cX11_count 68 = .ok (.ireturn, 1) := by decide +kernel
theorem dX11_count_69 : decode cX11_count 69 = .ok (.iconst (-1), 1) := by decide +kernel
theorem dX11_count_70 : decode cX11_count 70 = .ok (.ireturn, 1) := by decide +kernel
theorem dX11_within_0 : decode cX11_within 0 = .ok (.iload_n 0, 1) := by decide +kernel
theorem dX11_within_1 : decode cX11_within 1 = .ok (.iload_n 1, 1) := by decide +kernel
theorem dX11_within_2 : decode cX11_within 2 = .ok (.if_icmp .lt 12, 3) := by decide +kernel
theorem dX11_within_5 : decode cX11_within 5 = .ok (.iload_n 0, 1) := by decide +kernel
theorem dX11_within_6 : decode cX11_within 6 = .ok (.iload_n 2, 1) := by decide +kernel
theorem dX11_within_7 : decode cX11_within 7 = .ok (.if_icmp .gt 7, 3) := by decide +kernel
theorem dX11_within_10 : decode cX11_within 10 = .ok (.iconst 1, 1) := by decide +kernel
theorem dX11_within_11 : decode cX11_within 11 = .ok (.goto 4, 3) := by decide +kernel
theorem dX11_within_14 : decode cX11_within 14 = .ok (.iconst 0, 1) := by decide +kernel
theorem dX11_within_15 : decode cX11_within 15 = .ok (.ireturn, 1) := by decide +kernel
theorem dX11_isFractionPart_0 : decode cX11_isFractionPart 0 = .ok (.iload_n 0, 1) := by decide +kernel
theorem dX11_isFractionPart_1 : decode cX11_isFractionPart 1 = .ok (.ifCond .eq 8, 3) := by decide +kernel
theorem dX11_isFractionPart_4 : decode cX11_isFractionPart 4 = .ok (.iload_n 0, 1) := by decide +kernel
theorem dX11_isFractionPart_5 : decode cX11_isFractionPart 5 = .ok (.iconst 1, 1) := by decide +kernel
theorem dX11_isFractionPart_6 : decode cX11_isFractionPart 6 = .ok (.if_icmp .ne 7, 3) := by decide +kernel
theorem dX11_isFractionPart_9 : decode cX11_isFractionPart 9 = .ok (.iconst 1, 1) := by decide +kernel
theorem dX11_isFractionPart_10 : decode cX11_isFractionPart 10 = .ok (.goto 4, 3) := by decide +kernel
theorem dX11_isFractionPart_13 : decode cX11_isFractionPart 13 = .ok (.iconst 0, 1) := by decide +kernel
theorem dX11_isFractionPart_14 : decode cX11_isFractionPart 14 = .ok (.ireturn, 1) := by decide +kernel
theorem dX11_weigh_0 : decode cX11_weigh 0 = .ok (.aload_n 0, 1) := by decide +kernel
theorem dX11_weigh_1 : decode cX11_weigh 1 = .ok (.getfield 37, 3) := by decide +kernel
theorem dX11_weigh_4 : decode cX11_weigh 4 = .ok (.invokevirtual 130, 3) := by decide +kernel
theorem dX11_weigh_7 : decode cX11_weigh 7 = .ok (.iload_n 1, 1) := by decide +kernel
theorem dX11_weigh_8 : decode cX11_weigh 8 = .ok (.invokevirtual 140, 3) := by decide +kernel
theorem dX11_weigh_11 : decode cX11_weigh 11 = .ok (.ifCond .ne 6, 3) := by decide +kernel
theorem dX11_weigh_14 : decode cX11_weigh 14 = .ok (.bipush (-4), 2) := by decide +kernel
theorem dX11_weigh_16 : decode cX11_weigh 16 = .ok (.ireturn, 1) := by decide +kernel
theorem dX11_weigh_17 : decode cX11_weigh 17 = .ok (.aload_n 0, 1) := by decide +kernel
theorem dX11_weigh_18 : decode cX11_weigh 18 = .ok (.getfield 37, 3) := by decide +kernel
theorem dX11_weigh_21 : decode cX11_weigh 21 = .ok (.iload_n 1, 1) := by decide +kernel
theorem dX11_weigh_22 : decode cX11_weigh 22 = .ok (.invokevirtual 137, 3) := by decide +kernel
theorem dX11_weigh_25 : decode cX11_weigh 25 = .ok (.lstore_n 2, 1) := by decide +kernel
theorem dX11_weigh_26 : decode cX11_weigh 26 = .ok (.lload_n 2, 1) := by decide +kernel
theorem dX11_weigh_27 : decode cX11_weigh 27 = .ok (.invokestatic 124, 3) := by decide +kernel
theorem dX11_weigh_30 : decode cX11_weigh 30 = .ok (.bipush 8, 2) := by decide +kernel
theorem dX11_weigh_32 : decode cX11_weigh 32 = .ok (.if_icmp .le 6, 3) := by decide +kernel
theorem dX11_weigh_35 : decode cX11_weigh 35 = .ok (.bipush (-6), 2) := by decide +kernel
theorem dX11_weigh_37 : decode cX11_weigh 37 = .ok (.ireturn, 1) := by decide +kernel
theorem dX11_weigh_38 : decode cX11_weigh 38 = .ok (.aload_n 0, 1) := by decide +kernel
theorem dX11_weigh_39 : decode cX11_weigh 39 = .ok (.getfield 44, 3) := by decide +kernel
theorem dX11_weigh_42 : decode cX11_weigh 42 = .ok (.lload_n 2, 1) := by decide +kernel
theorem dX11_weigh_43 : decode cX11_weigh 43 = .ok (.invokevirtual 316, 3) := by decide +kernel
theorem dX11_weigh_46 : decode cX11_weigh 46 = .ok (.iconst 0, 1) := by decide +kernel
theorem dX11_weigh_47 : decode cX11_weigh 47 = .ok (.ireturn, 1) := by decide +kernel
theorem dX11_shareByWords_0 : decode cX11_shareByWords 0 = .ok (.aload_n 0, 1) := by decide +kernel
theorem dX11_shareByWords_1 : decode cX11_shareByWords 1 = .ok (.getfield 19, 3) := by decide +kernel
theorem dX11_shareByWords_4 : decode cX11_shareByWords 4 = .ok (.invokevirtual 186, 3) := by decide +kernel
theorem dX11_shareByWords_7 : decode cX11_shareByWords 7 = .ok (.ifCond .ne 7, 3) := by decide +kernel
theorem dX11_shareByWords_10 : decode cX11_shareByWords 10 = .ok (.ldc2_w 192, 3) := by decide +kernel
theorem dX11_shareByWords_13 : decode cX11_shareByWords 13 = .ok (.lreturn, 1) := by decide +kernel
theorem dX11_shareByWords_14 : decode cX11_shareByWords 14 = .ok (.aload_n 0, 1) := by decide +kernel
theorem dX11_shareByWords_15 : decode cX11_shareByWords 15 = .ok (.getfield 19, 3) := by decide +kernel
theorem dX11_shareByWords_18 : decode cX11_shareByWords 18 = .ok (.invokevirtual 194, 3) := by decide +kernel
theorem dX11_shareByWords_21 : decode cX11_shareByWords 21 = .ok (.istore_n 3, 1) := by decide +kernel
theorem dX11_shareByWords_22 : decode cX11_shareByWords 22 = .ok (.aload_n 0, 1) := by decide +kernel
theorem dX11_shareByWords_23 : decode cX11_shareByWords 23 = .ok (.getfield 51, 3) := by decide +kernel
theorem dX11_shareByWords_26 : decode cX11_shareByWords 26 = .ok (.iload_n 3, 1) := by decide +kernel
theorem dX11_shareByWords_27 : decode cX11_shareByWords 27 = .ok (.iload_n 1, 1) := by decide +kernel
theorem dX11_shareByWords_28 : decode cX11_shareByWords 28 = .ok (.invokevirtual 197, 3) := by decide +kernel
theorem dX11_shareByWords_31 : decode cX11_shareByWords 31 = .ok (.aload_n 0, 1) := by decide +kernel
theorem dX11_shareByWords_32 : decode cX11_shareByWords 32 = .ok (.getfield 51, 3) := by decide +kernel
theorem dX11_shareByWords_35 : decode cX11_shareByWords 35 = .ok (.iload_n 3, 1) := by decide +kernel
theorem dX11_shareByWords_36 : decode cX11_shareByWords 36 = .ok (.iconst 0, 1) := by decide +kernel
theorem dX11_shareByWords_37 : decode cX11_shareByWords 37 = .ok (.invokevirtual 197, 3) := by decide +kernel
theorem dX11_shareByWords_40 : decode cX11_shareByWords 40 = .ok (.iload_n 2, 1) := by decide +kernel
theorem dX11_shareByWords_41 : decode cX11_shareByWords 41 = .ok (.invokestatic 172, 3) := by decide +kernel
theorem dX11_shareByWords_44 : decode cX11_shareByWords 44 = .ok (.lreturn, 1) := by decide +kernel
theorem dX11_judgeCells_0 : decode cX11_judgeCells 0 = .ok (.aload_n 0, 1) := by decide +kernel
theorem dX11_judgeCells_1 : decode cX11_judgeCells 1 = .ok (.getfield 44, 3) := by decide +kernel
theorem dX11_judgeCells_4 : decode cX11_judgeCells 4 = .ok (.invokevirtual 320, 3) := by decide +kernel
theorem dX11_judgeCells_7 : decode cX11_judgeCells 7 = .ok (.iconst 0, 1) := by decide +kernel
theorem dX11_judgeCells_8 : decode cX11_judgeCells 8 = .ok (.istore 5, 2) := by decide +kernel
theorem dX11_judgeCells_10 : decode cX11_judgeCells 10 = .ok (.iconst 0, 1) := by decide +kernel
theorem dX11_judgeCells_11 : decode cX11_judgeCells 11 = .ok (.istore 6, 2) := by decide +kernel
theorem dX11_judgeCells_13 : decode cX11_judgeCells 13 = .ok (.iload 6, 2) := by decide +kernel
theorem dX11_judgeCells_15 : decode cX11_judgeCells 15 = .ok (.bipush 64, 2) := by decide +kernel
theorem dX11_judgeCells_17 : decode cX11_judgeCells 17 = .ok (.if_icmp .ge 82, 3) := by decide +kernel
theorem dX11_judgeCells_20 : decode cX11_judgeCells 20 = .ok (.lload_n 1, 1) := by decide +kernel
theorem dX11_judgeCells_21 : decode cX11_judgeCells 21 = .ok (.iload 6, 2) := by decide +kernel
theorem dX11_judgeCells_23 : decode cX11_judgeCells 23 = .ok (.lushr, 1) := by decide +kernel
theorem dX11_judgeCells_24 : decode cX11_judgeCells 24 = .ok (.lconst 1, 1) := by decide +kernel
theorem dX11_judgeCells_25 : decode cX11_judgeCells 25 = .ok (.land, 1) := by decide +kernel
theorem dX11_judgeCells_26 : decode cX11_judgeCells 26 = .ok (.lconst 0, 1) := by decide +kernel
theorem dX11_judgeCells_27 : decode cX11_judgeCells 27 = .ok (.lcmp, 1) := by decide +kernel
theorem dX11_judgeCells_28 : decode cX11_judgeCells 28 = .ok (.ifCond .ne 6, 3) := by decide +kernel
theorem dX11_judgeCells_31 : decode cX11_judgeCells 31 = .ok (.goto 62, 3) := by decide +kernel
theorem dX11_judgeCells_34 : decode cX11_judgeCells 34 = .ok (.aload_n 0, 1) := by decide +kernel
theorem dX11_judgeCells_35 : decode cX11_judgeCells 35 = .ok (.getfield 65, 3) := by decide +kernel
theorem dX11_judgeCells_38 : decode cX11_judgeCells 38 = .ok (.iload_n 3, 1) := by decide +kernel
theorem dX11_judgeCells_39 : decode cX11_judgeCells 39 = .ok (.iload 4, 2) := by decide +kernel
theorem dX11_judgeCells_41 : decode cX11_judgeCells 41 = .ok (.iload 5, 2) := by decide +kernel
theorem dX11_judgeCells_43 : decode cX11_judgeCells 43 = .ok (.iadd, 1) := by decide +kernel
theorem dX11_judgeCells_44 : decode cX11_judgeCells 44 = .ok (.invokevirtual 297, 3) := by decide +kernel
theorem dX11_judgeCells_47 : decode cX11_judgeCells 47 = .ok (.ifCond .ne 6, 3) := by decide +kernel
theorem dX11_judgeCells_50 : decode cX11_judgeCells 50 = .ok (.bipush (-12), 2) := by decide +kernel
theorem dX11_judgeCells_52 : decode cX11_judgeCells 52 = .ok (.ireturn, 1) := by decide +kernel
theorem dX11_judgeCells_53 : decode cX11_judgeCells 53 = .ok (.aload_n 0, 1) := by decide +kernel
theorem dX11_judgeCells_54 : decode cX11_judgeCells 54 = .ok (.getfield 65, 3) := by decide +kernel
theorem dX11_judgeCells_57 : decode cX11_judgeCells 57 = .ok (.iload_n 3, 1) := by decide +kernel
theorem dX11_judgeCells_58 : decode cX11_judgeCells 58 = .ok (.iload 4, 2) := by decide +kernel
theorem dX11_judgeCells_60 : decode cX11_judgeCells 60 = .ok (.iload 5, 2) := by decide +kernel
theorem dX11_judgeCells_62 : decode cX11_judgeCells 62 = .ok (.iadd, 1) := by decide +kernel
theorem dX11_judgeCells_63 : decode cX11_judgeCells 63 = .ok (.invokevirtual 323, 3) := by decide +kernel
theorem dX11_judgeCells_66 : decode cX11_judgeCells 66 = .ok (.istore 7, 2) := by decide +kernel
theorem dX11_judgeCells_68 : decode cX11_judgeCells 68 = .ok (.iload 7, 2) := by decide +kernel
theorem dX11_judgeCells_70 : decode cX11_judgeCells 70 = .ok (.ifCond .ge 9, 3) := by decide +kernel
theorem dX11_judgeCells_73 : decode cX11_judgeCells 73 = .ok (.bipush (-20), 2) := by decide +kernel
theorem dX11_judgeCells_75 : decode cX11_judgeCells 75 = .ok (.iload 5, 2) := by decide +kernel
theorem dX11_judgeCells_77 : decode cX11_judgeCells 77 = .ok (.isub, 1) := by decide +kernel
theorem dX11_judgeCells_78 : decode cX11_judgeCells 78 = .ok (.ireturn, 1) := by decide +kernel
theorem dX11_judgeCells_79 : decode cX11_judgeCells 79 = .ok (.aload_n 0, 1) := by decide +kernel
theorem dX11_judgeCells_80 : decode cX11_judgeCells 80 = .ok (.getfield 44, 3) := by decide +kernel
theorem dX11_judgeCells_83 : decode cX11_judgeCells 83 = .ok (.iload 6, 2) := by decide +kernel
theorem dX11_judgeCells_85 : decode cX11_judgeCells 85 = .ok (.iload 7, 2) := by decide +kernel
theorem dX11_judgeCells_87 : decode cX11_judgeCells 87 = .ok (.invokevirtual 326, 3) := by decide +kernel
theorem dX11_judgeCells_90 : decode cX11_judgeCells 90 = .ok (.iinc 5 1, 3) := by decide +kernel
theorem dX11_judgeCells_93 : decode cX11_judgeCells 93 = .ok (.iinc 6 1, 3) := by decide +kernel
theorem dX11_judgeCells_96 : decode cX11_judgeCells 96 = .ok (.goto (-83), 3) := by decide +kernel
theorem dX11_judgeCells_99 : decode cX11_judgeCells 99 = .ok (.aload_n 0, 1) := by decide +kernel
theorem dX11_judgeCells_100 : decode cX11_judgeCells 100 = .ok (.getfield 44, 3) := by decide +kernel
theorem dX11_judgeCells_103 : decode cX11_judgeCells 103 = .ok (.invokevirtual 330, 3) := by decide +kernel
theorem dX11_judgeCells_106 : decode cX11_judgeCells 106 = .ok (.ifCond .eq 7, 3) := by decide +kernel
theorem dX11_judgeCells_109 : decode cX11_judgeCells 109 = .ok (.iconst 1, 1) := by decide +kernel
theorem dX11_judgeCells_110 : decode cX11_judgeCells 110 = .ok (.goto 4, 3) := by decide +kernel
theorem dX11_judgeCells_113 : decode cX11_judgeCells 113 = .ok (.iconst 0, 1) := by decide +kernel
theorem dX11_judgeCells_114 : decode cX11_judgeCells 114 = .ok (.ireturn, 1) := by decide +kernel
theorem dX12_init_0 : decode cX12_init 0 = .ok (.aload_n 0, 1) := by decide +kernel
theorem dX12_init_1 : decode cX12_init 1 = .ok (.invokespecial 1, 3) := by decide +kernel
theorem dX12_init_4 : decode cX12_init 4 = .ok (.aload_n 0, 1) := by decide +kernel
theorem dX12_init_5 : decode cX12_init 5 = .ok (.bipush 8, 2) := by decide +kernel
theorem dX12_init_7 : decode cX12_init 7 = .ok (.newarray .int, 2) := by decide +kernel
theorem dX12_init_9 : decode cX12_init 9 = .ok (.dup, 1) := by decide +kernel
theorem dX12_init_10 : decode cX12_init 10 = .ok (.iconst 0, 1) := by decide +kernel
theorem dX12_init_11 : decode cX12_init 11 = .ok (.iconst 4, 1) := by decide +kernel
theorem dX12_init_12 : decode cX12_init 12 = .ok (.iastore, 1) := by decide +kernel
theorem dX12_init_13 : decode cX12_init 13 = .ok (.dup, 1) := by decide +kernel
theorem dX12_init_14 : decode cX12_init 14 = .ok (.iconst 1, 1) := by decide +kernel
theorem dX12_init_15 : decode cX12_init 15 = .ok (.iconst 0, 1) := by decide +kernel
theorem dX12_init_16 : decode cX12_init 16 = .ok (.iastore, 1) := by decide +kernel
theorem dX12_init_17 : decode cX12_init 17 = .ok (.dup, 1) := by decide +kernel
theorem dX12_init_18 : decode cX12_init 18 = .ok (.iconst 2, 1) := by decide +kernel
theorem dX12_init_19 : decode cX12_init 19 = .ok (.iconst 1, 1) := by decide +kernel
theorem dX12_init_20 : decode cX12_init 20 = .ok (.iastore, 1) := by decide +kernel
theorem dX12_init_21 : decode cX12_init 21 = .ok (.dup, 1) := by decide +kernel
theorem dX12_init_22 : decode cX12_init 22 = .ok (.iconst 3, 1) := by decide +kernel
theorem dX12_init_23 : decode cX12_init 23 = .ok (.iconst 0, 1) := by decide +kernel
theorem dX12_init_24 : decode cX12_init 24 = .ok (.iastore, 1) := by decide +kernel
theorem dX12_init_25 : decode cX12_init 25 = .ok (.dup, 1) := by decide +kernel
theorem dX12_init_26 : decode cX12_init 26 = .ok (.iconst 4, 1) := by decide +kernel
theorem dX12_init_27 : decode cX12_init 27 = .ok (.iconst 1, 1) := by decide +kernel
theorem dX12_init_28 : decode cX12_init 28 = .ok (.iastore, 1) := by decide +kernel
theorem dX12_init_29 : decode cX12_init 29 = .ok (.dup, 1) := by decide +kernel
theorem dX12_init_30 : decode cX12_init 30 = .ok (.iconst 5, 1) := by decide +kernel
theorem dX12_init_31 : decode cX12_init 31 = .ok (.iconst 0, 1) := by decide +kernel
theorem dX12_init_32 : decode cX12_init 32 = .ok (.iastore, 1) := by decide +kernel
theorem dX12_init_33 : decode cX12_init 33 = .ok (.dup, 1) := by decide +kernel
theorem dX12_init_34 : decode cX12_init 34 = .ok (.bipush 6, 2) := by decide +kernel
theorem dX12_init_36 : decode cX12_init 36 = .ok (.iconst 1, 1) := by decide +kernel
theorem dX12_init_37 : decode cX12_init 37 = .ok (.iastore, 1) := by decide +kernel
theorem dX12_init_38 : decode cX12_init 38 = .ok (.dup, 1) := by decide +kernel
theorem dX12_init_39 : decode cX12_init 39 = .ok (.bipush 7, 2) := by decide +kernel
theorem dX12_init_41 : decode cX12_init 41 = .ok (.iconst 0, 1) := by decide +kernel
theorem dX12_init_42 : decode cX12_init 42 = .ok (.iastore, 1) := by decide +kernel
theorem dX12_init_43 : decode cX12_init 43 = .ok (.putfield 7, 3) := by decide +kernel
theorem dX12_init_46 : decode cX12_init 46 = .ok (.aload_n 0, 1) := by decide +kernel
theorem dX12_init_47 : decode cX12_init 47 = .ok (.bipush 8, 2) := by decide +kernel
theorem dX12_init_49 : decode cX12_init 49 = .ok (.newarray .int, 2) := by decide +kernel
theorem dX12_init_51 : decode cX12_init 51 = .ok (.putfield 13, 3) := by decide +kernel
theorem dX12_init_54 : decode cX12_init 54 = .ok (.aload_n 0, 1) := by decide +kernel
theorem dX12_init_55 : decode cX12_init 55 = .ok (.bipush 120, 2) := by decide +kernel
theorem dX12_init_57 : decode cX12_init 57 = .ok (.newarray .int, 2) := by decide +kernel
theorem dX12_init_59 : decode cX12_init 59 = .ok (.putfield 16, 3) := by decide +kernel
theorem dX12_init_62 : decode cX12_init 62 = .ok (.aload_n 0, 1) := by decide +kernel
theorem dX12_init_63 : decode cX12_init 63 = .ok (.bipush 6, 2) := by decide +kernel
theorem dX12_init_65 : decode cX12_init 65 = .ok (.newarray .int, 2) := by decide +kernel
theorem dX12_init_67 : decode cX12_init 67 = .ok (.dup, 1) := by decide +kernel
theorem dX12_init_68 : decode cX12_init 68 = .ok (.iconst 0, 1) := by decide +kernel
theorem dX12_init_69 : decode cX12_init 69 = .ok (.iconst 0, 1) := by decide +kernel
theorem dX12_init_70 : decode cX12_init 70 = .ok (.iastore, 1) := by decide +kernel
theorem dX12_init_71 : decode cX12_init 71 = .ok (.dup, 1) := by decide +kernel
theorem dX12_init_72 : decode cX12_init 72 = .ok (.iconst 1, 1) := by decide +kernel
theorem dX12_init_73 : decode cX12_init 73 = .ok (.iconst 4, 1) := by decide +kernel
theorem dX12_init_74 : decode cX12_init 74 = .ok (.iastore, 1) := by decide +kernel
theorem dX12_init_75 : decode cX12_init 75 = .ok (.dup, 1) := by decide +kernel
theorem dX12_init_76 : decode cX12_init 76 = .ok (.iconst 2, 1) := by decide +kernel
theorem dX12_init_77 : decode cX12_init 77 = .ok (.bipush 8, 2) := by decide +kernel
theorem dX12_init_79 : decode cX12_init 79 = .ok (.iastore, 1) := by decide +kernel
theorem dX12_init_80 : decode cX12_init 80 = .ok (.dup, 1) := by decide +kernel
theorem dX12_init_81 : decode cX12_init 81 = .ok (.iconst 3, 1) := by decide +kernel
theorem dX12_init_82 : decode cX12_init 82 = .ok (.bipush 11, 2) := by decide +kernel
theorem dX12_init_84 : decode cX12_init 84 = .ok (.iastore, 1) := by decide +kernel
theorem dX12_init_85 : decode cX12_init 85 = .ok (.dup, 1) := by decide +kernel
theorem dX12_init_86 : decode cX12_init 86 = .ok (.iconst 4, 1) := by decide +kernel
theorem dX12_init_87 : decode cX12_init 87 = .ok (.bipush 13, 2) := by decide +kernel
theorem dX12_init_89 : decode cX12_init 89 = .ok (.iastore, 1) := by decide +kernel
theorem dX12_init_90 : decode cX12_init 90 = .ok (.dup, 1) := by decide +kernel
theorem dX12_init_91 : decode cX12_init 91 = .ok (.iconst 5, 1) := by decide +kernel
theorem dX12_init_92 : decode cX12_init 92 = .ok (.bipush 16, 2) := by decide +kernel
theorem dX12_init_94 : decode cX12_init 94 = .ok (.iastore, 1) := by decide +kernel
theorem dX12_init_95 : decode cX12_init 95 = .ok (.putfield 19, 3) := by decide +kernel
theorem dX12_init_98 : decode cX12_init 98 = .ok (.aload_n 0, 1) := by decide +kernel
theorem dX12_init_99 : decode cX12_init 99 = .ok (.bipush 16, 2) := by decide +kernel
theorem dX12_init_101 : decode cX12_init 101 = .ok (.newarray .int, 2) := by decide +kernel
theorem dX12_init_103 : decode cX12_init 103 = .ok (.dup, 1) := by decide +kernel
theorem dX12_init_104 : decode cX12_init 104 = .ok (.iconst 0, 1) := by decide +kernel
theorem dX12_init_105 : decode cX12_init 105 = .ok (.bipush 114, 2) := by decide +kernel
theorem dX12_init_107 : decode cX12_init 107 = .ok (.iastore, 1) := by decide +kernel
theorem dX12_init_108 : decode cX12_init 108 = .ok (.dup, 1) := by decide +kernel
theorem dX12_init_109 : decode cX12_init 109 = .ok (.iconst 1, 1) := by decide +kernel
theorem dX12_init_110 : decode cX12_init 110 = .ok (.bipush 105, 2) := by decide +kernel
theorem dX12_init_112 : decode cX12_init 112 = .ok (.iastore, 1) := by decide +kernel
theorem dX12_init_113 : decode cX12_init 113 = .ok (.dup, 1) := by decide +kernel
theorem dX12_init_114 : decode cX12_init 114 = .ok (.iconst 2, 1) := by decide +kernel
theorem dX12_init_115 : decode cX12_init 115 = .ok (.bipush 110, 2) := by decide +kernel
theorem dX12_init_117 : decode cX12_init 117 = .ok (.iastore, 1) := by decide +kernel
theorem dX12_init_118 : decode cX12_init 118 = .ok (.dup, 1) := by decide +kernel
theorem dX12_init_119 : decode cX12_init 119 = .ok (.iconst 3, 1) := by decide +kernel
theorem dX12_init_120 : decode cX12_init 120 = .ok (.bipush 103, 2) := by decide +kernel
theorem dX12_init_122 : decode cX12_init 122 = .ok (.iastore, 1) := by decide +kernel
theorem dX12_init_123 : decode cX12_init 123 = .ok (.dup, 1) := by decide +kernel
theorem dX12_init_124 : decode cX12_init 124 = .ok (.iconst 4, 1) := by decide +kernel
theorem dX12_init_125 : decode cX12_init 125 = .ok (.bipush 111, 2) := by decide +kernel
theorem dX12_init_127 : decode cX12_init 127 = .ok (.iastore, 1) := by decide +kernel
theorem dX12_init_128 : decode cX12_init 128 = .ok (.dup, 1) := by decide +kernel
theorem dX12_init_129 : decode cX12_init 129 = .ok (.iconst 5, 1) := by decide +kernel
theorem dX12_init_130 : decode cX12_init 130 = .ok (.bipush 112, 2) := by decide +kernel
theorem dX12_init_132 : decode cX12_init 132 = .ok (.iastore, 1) := by decide +kernel
theorem dX12_init_133 : decode cX12_init 133 = .ok (.dup, 1) := by decide +kernel
theorem dX12_init_134 : decode cX12_init 134 = .ok (.bipush 6, 2) := by decide +kernel
theorem dX12_init_136 : decode cX12_init 136 = .ok (.bipush 101, 2) := by decide +kernel
theorem dX12_init_138 : decode cX12_init 138 = .ok (.iastore, 1) := by decide +kernel
theorem dX12_init_139 : decode cX12_init 139 = .ok (.dup, 1) := by decide +kernel
theorem dX12_init_140 : decode cX12_init 140 = .ok (.bipush 7, 2) := by decide +kernel
theorem dX12_init_142 : decode cX12_init 142 = .ok (.bipush 110, 2) := by decide +kernel
theorem dX12_init_144 : decode cX12_init 144 = .ok (.iastore, 1) := by decide +kernel
theorem dX12_init_145 : decode cX12_init 145 = .ok (.dup, 1) := by decide +kernel
theorem dX12_init_146 : decode cX12_init 146 = .ok (.bipush 8, 2) := by decide +kernel
theorem dX12_init_148 : decode cX12_init 148 = .ok (.bipush 104, 2) := by decide +kernel
theorem dX12_init_150 : decode cX12_init 150 = .ok (.iastore, 1) := by decide +kernel
theorem dX12_init_151 : decode cX12_init 151 = .ok (.dup, 1) := by decide +kernel
theorem dX12_init_152 : decode cX12_init 152 = .ok (.bipush 9, 2) := by decide +kernel
theorem dX12_init_154 : decode cX12_init 154 = .ok (.bipush 111, 2) := by decide +kernel
theorem dX12_init_156 : decode cX12_init 156 = .ok (.iastore, 1) := by decide +kernel
theorem dX12_init_157 : decode cX12_init 157 = .ok (.dup, 1) := by decide +kernel
theorem dX12_init_158 : decode cX12_init 158 = .ok (.bipush 10, 2) := by decide +kernel
theorem dX12_init_160 : decode cX12_init 160 = .ok (.bipush 112, 2) := by decide +kernel
theorem dX12_init_162 : decode cX12_init 162 = .ok (.iastore, 1) := by decide +kernel
theorem dX12_init_163 : decode cX12_init 163 = .ok (.dup, 1) := by decide +kernel
theorem dX12_init_164 : decode cX12_init 164 = .ok (.bipush 11, 2) := by decide +kernel
theorem dX12_init_166 : decode cX12_init 166 = .ok (.bipush 105, 2) := by decide +kernel
theorem dX12_init_168 : decode cX12_init 168 = .ok (.iastore, 1) := by decide +kernel
theorem dX12_init_169 : decode cX12_init 169 = .ok (.dup, 1) := by decide +kernel
theorem dX12_init_170 : decode cX12_init 170 = .ok (.bipush 12, 2) := by decide +kernel
theorem dX12_init_172 : decode cX12_init 172 = .ok (.bipush 110, 2) := by decide +kernel
theorem dX12_init_174 : decode cX12_init 174 = .ok (.iastore, 1) := by decide +kernel
theorem dX12_init_175 : decode cX12_init 175 = .ok (.dup, 1) := by decide +kernel
theorem dX12_init_176 : decode cX12_init 176 = .ok (.bipush 13, 2) := by decide +kernel
theorem dX12_init_178 : decode cX12_init 178 = .ok (.bipush 111, 2) := by decide +kernel
theorem dX12_init_180 : decode cX12_init 180 = .ok (.iastore, 1) := by decide +kernel
theorem dX12_init_181 : decode cX12_init 181 = .ok (.dup, 1) := by decide +kernel
theorem dX12_init_182 : decode cX12_init 182 = .ok (.bipush 14, 2) := by decide +kernel
theorem dX12_init_184 : decode cX12_init 184 = .ok (.bipush 117, 2) := by decide +kernel
theorem dX12_init_186 : decode cX12_init 186 = .ok (.iastore, 1) := by decide +kernel
theorem dX12_init_187 : decode cX12_init 187 = .ok (.dup, 1) := by decide +kernel
theorem dX12_init_188 : decode cX12_init 188 = .ok (.bipush 15, 2) := by decide +kernel
theorem dX12_init_190 : decode cX12_init 190 = .ok (.bipush 116, 2) := by decide +kernel
theorem dX12_init_192 : decode cX12_init 192 = .ok (.iastore, 1) := by decide +kernel
theorem dX12_init_193 : decode cX12_init 193 = .ok (.putfield 22, 3) := by decide +kernel
theorem dX12_init_196 : decode cX12_init 196 = .ok (.aload_n 0, 1) := by decide +kernel
theorem dX12_init_197 : decode cX12_init 197 = .ok (.bipush 64, 2) := by decide +kernel
theorem dX12_init_199 : decode cX12_init 199 = .ok (.newarray .long, 2) := by decide +kernel
theorem dX12_init_201 : decode cX12_init 201 = .ok (.putfield 25, 3) := by decide +kernel
theorem dX12_init_204 : decode cX12_init 204 = .ok (.aload_n 0, 1) := by decide +kernel
theorem dX12_init_205 : decode cX12_init 205 = .ok (.bipush 64, 2) := by decide +kernel
theorem dX12_init_207 : decode cX12_init 207 = .ok (.newarray .int, 2) := by decide +kernel
theorem dX12_init_209 : decode cX12_init 209 = .ok (.putfield 29, 3) := by decide +kernel
theorem dX12_init_212 : decode cX12_init 212 = .ok (.aload_n 0, 1) := by decide +kernel
theorem dX12_init_213 : decode cX12_init 213 = .ok (.bipush 64, 2) := by decide +kernel
theorem dX12_init_215 : decode cX12_init 215 = .ok (.newarray .long, 2) := by decide +kernel
theorem dX12_init_217 : decode cX12_init 217 = .ok (.putfield 32, 3) := by decide +kernel
theorem dX12_init_220 : decode cX12_init 220 = .ok (.aload_n 0, 1) := by decide +kernel
theorem dX12_init_221 : decode cX12_init 221 = .ok (.bipush 64, 2) := by decide +kernel
theorem dX12_init_223 : decode cX12_init 223 = .ok (.newarray .long, 2) := by decide +kernel
theorem dX12_init_225 : decode cX12_init 225 = .ok (.putfield 35, 3) := by decide +kernel
theorem dX12_init_228 : decode cX12_init 228 = .ok (.aload_n 0, 1) := by decide +kernel
theorem dX12_init_229 : decode cX12_init 229 = .ok (.sipush 128, 3) := by decide +kernel
theorem dX12_init_232 : decode cX12_init 232 = .ok (.newarray .long, 2) := by decide +kernel
theorem dX12_init_234 : decode cX12_init 234 = .ok (.putfield 38, 3) := by decide +kernel
theorem dX12_init_237 : decode cX12_init 237 = .ok (.aload_n 0, 1) := by decide +kernel
theorem dX12_init_238 : decode cX12_init 238 = .ok (.bipush 64, 2) := by decide +kernel
theorem dX12_init_240 : decode cX12_init 240 = .ok (.newarray .int, 2) := by decide +kernel
theorem dX12_init_242 : decode cX12_init 242 = .ok (.putfield 41, 3) := by decide +kernel
theorem dX12_init_245 : decode cX12_init 245 = .ok (.aload_n 0, 1) := by decide +kernel
theorem dX12_init_246 : decode cX12_init 246 = .ok (.sipush 256, 3) := by decide +kernel
theorem dX12_init_249 : decode cX12_init 249 = .ok (.newarray .long, 2) := by decide +kernel
theorem dX12_init_251 : decode cX12_init 251 = .ok (.putfield 44, 3) := by decide +kernel
theorem dX12_init_254 : decode cX12_init 254 = .ok (.aload_n 0, 1) := by decide +kernel
theorem dX12_init_255 : decode cX12_init 255 = .ok (.sipush 4096, 3) := by decide +kernel
theorem dX12_init_258 : decode cX12_init 258 = .ok (.newarray .long, 2) := by decide +kernel
theorem dX12_init_260 : decode cX12_init 260 = .ok (.putfield 47, 3) := by decide +kernel
theorem dX12_init_263 : decode cX12_init 263 = .ok (.aload_n 0, 1) := by decide +kernel
theorem dX12_init_264 : decode cX12_init 264 = .ok (.sipush 4096, 3) := by decide +kernel
theorem dX12_init_267 : decode cX12_init 267 = .ok (.newarray .long, 2) := by decide +kernel
theorem dX12_init_269 : decode cX12_init 269 = .ok (.putfield 50, 3) := by decide +kernel
theorem dX12_init_272 : decode cX12_init 272 = .ok (.aload_n 0, 1) := by decide +kernel
theorem dX12_init_273 : decode cX12_init 273 = .ok (.iconst 4, 1) := by decide +kernel
theorem dX12_init_274 : decode cX12_init 274 = .ok (.newarray .int, 2) := by decide +kernel
theorem dX12_init_276 : decode cX12_init 276 = .ok (.putfield 53, 3) := by decide +kernel
theorem dX12_init_279 : decode cX12_init 279 = .ok (.aload_n 0, 1) := by decide +kernel
theorem dX12_init_280 : decode cX12_init 280 = .ok (.bipush 6, 2) := by decide +kernel
theorem dX12_init_282 : decode cX12_init 282 = .ok (.newarray .int, 2) := by decide +kernel
theorem dX12_init_284 : decode cX12_init 284 = .ok (.putfield 56, 3) := by decide +kernel
theorem dX12_init_287 : decode cX12_init 287 = .ok (.aload_n 0, 1) := by decide +kernel
theorem dX12_init_288 : decode cX12_init 288 = .ok (.iconst 4, 1) := by decide +kernel
theorem dX12_init_289 : decode cX12_init 289 = .ok (.newarray .int, 2) := by decide +kernel
theorem dX12_init_291 : decode cX12_init 291 = .ok (.dup, 1) := by decide +kernel
theorem dX12_init_292 : decode cX12_init 292 = .ok (.iconst 0, 1) := by decide +kernel
theorem dX12_init_293 : decode cX12_init 293 = .ok (.bipush (-4), 2) := by decide +kernel
theorem dX12_init_295 : decode cX12_init 295 = .ok (.iastore, 1) := by decide +kernel
theorem dX12_init_296 : decode cX12_init 296 = .ok (.dup, 1) := by decide +kernel
theorem dX12_init_297 : decode cX12_init 297 = .ok (.iconst 1, 1) := by decide +kernel
theorem dX12_init_298 : decode cX12_init 298 = .ok (.bipush (-4), 2) := by decide +kernel
theorem dX12_init_300 : decode cX12_init 300 = .ok (.iastore, 1) := by decide +kernel
theorem dX12_init_301 : decode cX12_init 301 = .ok (.dup, 1) := by decide +kernel
theorem dX12_init_302 : decode cX12_init 302 = .ok (.iconst 2, 1) := by decide +kernel
theorem dX12_init_303 : decode cX12_init 303 = .ok (.bipush (-4), 2) := by decide +kernel
theorem dX12_init_305 : decode cX12_init 305 = .ok (.iastore, 1) := by decide +kernel
theorem dX12_init_306 : decode cX12_init 306 = .ok (.dup, 1) := by decide +kernel
theorem dX12_init_307 : decode cX12_init 307 = .ok (.iconst 3, 1) := by decide +kernel
theorem dX12_init_308 : decode cX12_init 308 = .ok (.bipush (-4), 2) := by decide +kernel
theorem dX12_init_310 : decode cX12_init 310 = .ok (.iastore, 1) := by decide +kernel
theorem dX12_init_311 : decode cX12_init 311 = .ok (.putfield 59, 3) := by decide +kernel
theorem dX12_init_314 : decode cX12_init 314 = .ok (.aload_n 0, 1) := by decide +kernel
theorem dX12_init_315 : decode cX12_init 315 = .ok (.iconst 4, 1) := by decide +kernel
theorem dX12_init_316 : decode cX12_init 316 = .ok (.newarray .int, 2) := by decide +kernel
theorem dX12_init_318 : decode cX12_init 318 = .ok (.putfield 62, 3) := by decide +kernel
theorem dX12_init_321 : decode cX12_init 321 = .ok (.aload_n 0, 1) := by decide +kernel
theorem dX12_init_322 : decode cX12_init 322 = .ok (.sipush 256, 3) := by decide +kernel
theorem dX12_init_325 : decode cX12_init 325 = .ok (.newarray .int, 2) := by decide +kernel
theorem dX12_init_327 : decode cX12_init 327 = .ok (.putfield 65, 3) := by decide +kernel
theorem dX12_init_330 : decode cX12_init 330 = .ok (.return_, 1) := by decide +kernel
theorem dX12_in_0 : decode cX12_in 0 = .ok (.lload_n 0, 1) := by decide +kernel
theorem dX12_in_1 : decode cX12_in 1 = .ok (.lload_n 2, 1) := by decide +kernel
theorem dX12_in_2 : decode cX12_in 2 = .ok (.lcmp, 1) := by decide +kernel
theorem dX12_in_3 : decode cX12_in 3 = .ok (.ifCond .lt 14, 3) := by decide +kernel
theorem dX12_in_6 : decode cX12_in 6 = .ok (.lload_n 0, 1) := by decide +kernel
theorem dX12_in_7 : decode cX12_in 7 = .ok (.lload 4, 2) := by decide +kernel
theorem dX12_in_9 : decode cX12_in 9 = .ok (.lcmp, 1) := by decide +kernel
theorem dX12_in_10 : decode cX12_in 10 = .ok (.ifCond .gt 7, 3) := by decide +kernel
theorem dX12_in_13 : decode cX12_in 13 = .ok (.iconst 1, 1) := by decide +kernel
theorem dX12_in_14 : decode cX12_in 14 = .ok (.goto 4, 3) := by decide +kernel
theorem dX12_in_17 : decode cX12_in 17 = .ok (.iconst 0, 1) := by decide +kernel
theorem dX12_in_18 : decode cX12_in 18 = .ok (.ireturn, 1) := by decide +kernel
theorem dX12_places_0 : decode cX12_places 0 = .ok (.aload_n 0, 1) := by decide +kernel
theorem dX12_places_1 : decode cX12_places 1 = .ok (.getfield 7, 3) := by decide +kernel
theorem dX12_places_4 : decode cX12_places 4 = .ok (.iconst 0, 1) := by decide +kernel
theorem dX12_places_5 : decode cX12_places 5 = .ok (.iaload, 1) := by decide +kernel
theorem dX12_places_6 : decode cX12_places 6 = .ok (.ireturn, 1) := by decide +kernel
theorem dX12_isOpen_0 : decode cX12_isOpen 0 = .ok (.aload_n 0, 1) := by decide +kernel
theorem dX12_isOpen_1 : decode cX12_isOpen 1 = .ok (.getfield 7, 3) := by decide +kernel
theorem dX12_isOpen_4 : decode cX12_isOpen 4 = .ok (.iconst 1, 1) := by decide +kernel
theorem dX12_isOpen_5 : decode cX12_isOpen 5 = .ok (.iaload, 1) := by decide +kernel
theorem dX12_isOpen_6 : decode cX12_isOpen 6 = .ok (.iconst 1, 1) := by decide +kernel
theorem dX12_isOpen_7 : decode cX12_isOpen 7 = .ok (.if_icmp .ne 7, 3) := by decide +kernel
theorem dX12_isOpen_10 : decode cX12_isOpen 10 = .ok (.iconst 1, 1) := by decide +kernel
theorem dX12_isOpen_11 : decode cX12_isOpen 11 = .ok (.goto 4, 3) := by decide +kernel
theorem dX12_isOpen_14 : decode cX12_isOpen 14 = .ok (.iconst 0, 1) := by decide +kernel
theorem dX12_isOpen_15 : decode cX12_isOpen 15 = .ok (.ireturn, 1) := by decide +kernel
theorem dX12_states_0 : decode cX12_states 0 = .ok (.iconst 1, 1) := by decide +kernel
theorem dX12_states_1 : decode cX12_states 1 = .ok (.aload_n 0, 1) := by decide +kernel
theorem dX12_states_2 : decode cX12_states 2 = .ok (.getfield 7, 3) := by decide +kernel
theorem dX12_states_5 : decode cX12_states 5 = .ok (.iconst 0, 1) := by decide +kernel
theorem dX12_states_6 : decode cX12_states 6 = .ok (.iaload, 1) := by decide +kernel
theorem dX12_states_7 : decode cX12_states 7 = .ok (.ishl, 1) := by decide +kernel
theorem dX12_states_8 : decode cX12_states 8 = .ok (.ireturn, 1) := by decide +kernel
theorem dX12_isState_0 : decode cX12_isState 0 = .ok (.iload_n 1, 1) := by decide +kernel
theorem dX12_isState_1 : decode cX12_isState 1 = .ok (.i2l, 1) := by decide +kernel
theorem dX12_isState_2 : decode cX12_isState 2 = .ok (.lconst 0, 1) := by decide +kernel
theorem dX12_isState_3 : decode cX12_isState 3 = .ok (.aload_n 0, 1) := by decide +kernel
theorem dX12_isState_4 : decode cX12_isState 4 = .ok (.invokevirtual 68, 3) := by decide +kernel
theorem dX12_isState_7 : decode cX12_isState 7 = .ok (.iconst 1, 1) := by decide +kernel
theorem dX12_isState_8 : decode cX12_isState 8 = .ok (.isub, 1) := by decide +kernel
theorem dX12_isState_9 : decode cX12_isState 9 = .ok (.i2l, 1) := by decide +kernel
theorem dX12_isState_10 : decode cX12_isState 10 = .ok (.invokestatic 72, 3) := by decide +kernel
theorem dX12_isState_13 : decode cX12_isState 13 = .ok (.ireturn, 1) := by decide +kernel
theorem dX12_feed_0 : decode cX12_feed 0 = .ok (.aload_n 0, 1) := by decide +kernel
theorem dX12_feed_1 : decode cX12_feed 1 = .ok (.getfield 76, 3) := by decide +kernel
theorem dX12_feed_4 : decode cX12_feed 4 = .ok (.bipush 8, 2) := by decide +kernel
theorem dX12_feed_6 : decode cX12_feed 6 = .ok (.iadd, 1) := by decide +kernel
theorem dX12_feed_7 : decode cX12_feed 7 = .ok (.bipush 120, 2) := by decide +kernel
theorem dX12_feed_9 : decode cX12_feed 9 = .ok (.if_icmp .le 6, 3) := by decide +kernel
theorem dX12_feed_12 : decode cX12_feed 12 = .ok (.bipush (-3), 2) := by decide +kernel
theorem dX12_feed_14 : decode cX12_feed 14 = .ok (.ireturn, 1) := by decide +kernel
theorem dX12_feed_15 : decode cX12_feed 15 = .ok (.bipush 56, 2) := by decide +kernel
theorem dX12_feed_17 : decode cX12_feed 17 = .ok (.istore_n 3, 1) := by decide +kernel
theorem dX12_feed_18 : decode cX12_feed 18 = .ok (.iload_n 3, 1) := by decide +kernel
theorem dX12_feed_19 : decode cX12_feed 19 = .ok (.ifCond .lt 36, 3) := by decide +kernel
theorem dX12_feed_22 : decode cX12_feed 22 = .ok (.aload_n 0, 1) := by decide +kernel
theorem dX12_feed_23 : decode cX12_feed 23 = .ok (.getfield 16, 3) := by decide +kernel
theorem dX12_feed_26 : decode cX12_feed 26 = .ok (.aload_n 0, 1) := by decide +kernel
theorem dX12_feed_27 : decode cX12_feed 27 = .ok (.getfield 76, 3) := by decide +kernel
theorem dX12_feed_30 : decode cX12_feed 30 = .ok (.lload_n 1, 1) := by decide +kernel
theorem dX12_feed_31 : decode cX12_feed 31 = .ok (.iload_n 3, 1) := by decide +kernel
theorem dX12_feed_32 : decode cX12_feed 32 = .ok (.lshr, 1) := by decide +kernel
theorem dX12_feed_33 : decode cX12_feed 33 = .ok (.l2i, 1) := by decide +kernel
theorem dX12_feed_34 : decode cX12_feed 34 = .ok (.sipush 255, 3) := by decide +kernel
theorem dX12_feed_37 : decode cX12_feed 37 = .ok (.iand, 1) := by decide +kernel
